/** Promise 8: switches. */
public final class SwitchesTest {
    public static void main(String[] args) {
        wrongNodes();
        counts();
        heads();
        made();
        least();
        alls();
        severalInTurn();
        lastNode();
        afterClear();
        Due.finish();
    }

    private static void wrongNodes() {
        CountDesk desk = new CountDesk();
        for (int sort = 0; sort < 4; sort++) {
            desk.add(0, sort);
        }
        for (int node = 0; node < 5; node++) {
            desk.take(node, 2, 0, 2);
            desk.take(node, 2, 1, 2);
        }
        for (int node = 0; node < 14; node++) {
            Due.is("switches(" + node + ")", desk.switches(node), node == 2 ? 2 : -1);
        }
        int[] wrong = {-1, 250, Integer.MIN_VALUE, Integer.MAX_VALUE};
        for (int node : wrong) {
            Due.is("switches(" + node + ")", desk.switches(node), -1);
        }
    }

    private static void counts() {
        CountDesk desk = new CountDesk();
        desk.add(0, 1);
        Due.is("without parts", desk.switches(1), -1);
        desk.take(1, 59, 0, 2);
        Due.is("one part", desk.switches(1), -1);
        desk.take(1, 59, 0, 2);
        Due.is("two parts of one tag", desk.switches(1), 59);
        desk.take(1, 59, 1, 2);
        Due.is("three parts", desk.switches(1), 59);
        desk.take(1, 58, 1, 2);
        Due.is("another variable", desk.switches(1), -1);
    }

    /** A CHOICE of a TAKE of 3 and a PART of that SORT, with a NODE ahead of its own TAKE of 3. */
    private static CountDesk withPart(int sort) {
        CountDesk desk = new CountDesk();
        desk.add(0, 1);
        desk.take(1, 3, 1, 2);
        desk.add(1, sort);
        return desk;
    }

    private static void heads() {
        for (int sort = 0; sort < 4; sort++) {
            CountDesk desk = withPart(sort);
            Due.is("empty part of sort " + sort, desk.switches(1), -1);
            desk.take(3, 3, 0, 2);
            Due.is("part of sort " + sort, desk.switches(1), sort == 0 ? 3 : -1);
        }
        for (int kind = 0; kind < 5; kind++) {
            CountDesk desk = withPart(0);
            desk.goal(3, kind);
            desk.take(3, 3, 0, 2);
            Due.is("behind a goal of kind " + kind, desk.switches(1), kind == 0 ? 3 : -1);
            desk.goal(1, kind);
            Due.is("a goal as a part, " + kind, desk.switches(1), -1);
        }
        for (int sort = 0; sort < 4; sort++) {
            CountDesk desk = withPart(0);
            desk.add(3, sort);
            desk.take(4, 3, 0, 2);
            Due.is("deeper, sort " + sort, desk.switches(1), -1);
            desk.take(3, 3, 0, 2);
            Due.is("behind sort " + sort, desk.switches(1), -1);
        }
        CountDesk desk = withPart(0);
        desk.take(3, 5, 0, 0);
        desk.take(3, 6, 4, 7);
        desk.goal(3, 0);
        desk.take(3, 3, 0, 2);
        desk.goal(3, 3);
        Due.is("behind other TAKES", desk.switches(1), 3);
    }

    private static void made() {
        CountDesk desk = withPart(0);
        desk.put(3);
        desk.take(3, 5, 0, 2);
        desk.take(3, 3, 0, 2);
        Due.is("made by a TAKE ahead", desk.switches(1), -1);

        desk = withPart(0);
        desk.put(3);
        desk.goal(3, 0);
        desk.take(3, 3, 0, 2);
        desk.take(3, 3, 0, 2);
        Due.is("made by a GOAL ahead", desk.switches(1), -1);

        desk = withPart(0);
        desk.put(3);
        desk.take(3, 3, 0, 2);
        Due.is("made by itself", desk.switches(1), 3);

        desk = withPart(0);
        desk.take(3, 3, 0, 2);
        desk.put(3);
        desk.goal(3, 0);
        desk.take(3, 3, 1, 2);
        Due.is("made behind it", desk.switches(1), 3);
        Due.is("the first tells", desk.arms(1, 0), 1);

        desk = withPart(0);
        desk.put(4);
        desk.goal(3, 0);
        desk.take(3, 3, 0, 2);
        Due.is("another one is made", desk.switches(1), 3);
    }

    private static void least() {
        CountDesk desk = new CountDesk();
        desk.add(0, 1);
        for (int tag = 0; tag < 2; tag++) {
            int row = desk.add(1, 0);
            desk.take(row, 40, tag, 2);
            desk.take(row, 0, tag, 2);
            desk.take(row, 33, tag, 2);
        }
        Due.is("least of three", desk.switches(1), 0);
        int row = desk.add(1, 0);
        desk.take(row, 33, 0, 2);
        desk.take(row, 40, 0, 2);
        Due.is("least of two", desk.switches(1), 33);
        desk.take(1, 40, 0, 2);
        Due.is("one alone", desk.switches(1), 40);
        desk.take(1, 33, 0, 2);
        Due.is("none", desk.switches(1), -1);
    }

    private static void alls() {
        CountDesk desk = new CountDesk();
        desk.add(0, 1);
        desk.take(1, 0, 0, 2);
        desk.take(1, 0, 0, 3);
        Due.is("different alls", desk.switches(1), -1);

        desk.clear();
        desk.add(0, 1);
        for (int i = 0; i < 3; i++) {
            int row = desk.add(1, 0);
            desk.take(row, 0, 0, i == 2 ? 0 : 2);
            desk.take(row, 1, i, 0);
            desk.take(row, 1, i, 3);
        }
        Due.is("the next variable has the same all", desk.switches(1), 1);

        desk.clear();
        desk.add(0, 1);
        desk.take(1, 7, 99, 0);
        desk.take(1, 7, 0, 0);
        Due.is("both without an end", desk.switches(1), 7);
        Due.is("its kind", desk.kind(1), 1);
    }

    private static void severalInTurn() {
        CountDesk desk = new CountDesk();
        int[] variables = {8, 0, 59};
        for (int x : variables) {
            int choice = desk.add(0, 1);
            desk.take(choice, x, 0, 2);
            desk.take(choice, x, 1, 2);
        }
        int not = desk.add(1, 2);
        desk.take(not, 8, 0, 2);
        Due.is("with a NOT as a part", desk.switches(1), -1);
        Due.is("on 0", desk.switches(4), 0);
        Due.is("on 59", desk.switches(7), 59);
        Due.is("on 0 again", desk.switches(4), 0);
        not = desk.add(4, 2);
        desk.take(not, 0, 0, 2);
        Due.is("on 0, with a NOT", desk.switches(4), -1);
        Due.is("on 59 again", desk.switches(7), 59);
    }

    /** NODE 249 is the last there can be; a CHOICE there is none, as it has no room for PARTS. */
    private static void lastNode() {
        CountDesk desk = new CountDesk();
        for (int number = 1; number <= 246; number++) {
            desk.goal(0, 0);
        }
        Due.is("a choice", desk.add(0, 1), 247);
        Due.is("no PART", desk.switches(247), -1);
        desk.take(247, 59, 0, 2);
        Due.is("one PART", desk.switches(247), -1);
        desk.take(247, 59, 1, 2);
        Due.is("two PARTS", desk.switches(247), 59);
        Due.is("its last PART is none", desk.switches(249), -1);
        Due.is("none such", desk.switches(250), -1);
        Due.is("one more is refused", desk.take(247, 58, 1, 2), -1);
        Due.is("it is one still", desk.switches(247), 59);
        Due.is("NODE 0 is none", desk.switches(0), -1);
    }

    private static void afterClear() {
        CountDesk desk = new CountDesk();
        for (int round = 0; round < 3; round++) {
            int choice = desk.add(0, 1);
            desk.take(choice, 59 - round, 0, 2);
            desk.take(choice, 59 - round, 1, 2);
            Due.is("round " + round, desk.switches(choice), 59 - round);
            desk.clear();
            Due.is("after clear", desk.switches(choice), -1);
            Due.is("arms after clear", desk.arms(choice, -1), 0);
            Due.is("an arm after clear", desk.arms(choice, 0), 0);
            Due.is("a new CHOICE in its place", desk.add(0, 1), choice);
            Due.is("it is none", desk.switches(choice), -1);
            desk.clear();
        }
    }
}
