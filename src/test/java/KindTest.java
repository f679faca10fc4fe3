/** Promise 7: kind, for all SORTS, all KINDS of their PARTS, and SWITCHES. */
public final class KindTest {
    private static final int DET = 0;
    private static final int SEMIDET = 1;
    private static final int MULTI = 2;
    private static final int NONDET = 3;
    private static final int NEVER = 4;

    public static void main(String[] args) {
        wrongNodes();
        alone();
        pairs();
        triples();
        tests();
        switches();
        switchesInArms();
        withinSwitches();
        noneSuch();
        Due.finish();
    }

    private static void wrongNodes() {
        CountDesk desk = new CountDesk();
        desk.add(0, 1);
        int[] wrong = {-1, 2, 249, 250, 1000, Integer.MIN_VALUE, Integer.MAX_VALUE};
        for (int node : wrong) {
            Due.is("kind(" + node + ")", desk.kind(node), -1);
        }
    }

    /** A NODE of a SORT with goals of these KINDS. */
    private static int of(int sort, int... kinds) {
        CountDesk desk = new CountDesk();
        int node = desk.add(0, sort);
        for (int kind : kinds) {
            desk.goal(node, kind);
        }
        Due.is("kind(0) around it", desk.kind(0), desk.kind(node));
        return desk.kind(node);
    }

    private static void alone() {
        int[] empty = {DET, NEVER, NEVER, NEVER};
        for (int sort = 0; sort < 4; sort++) {
            Due.is("without parts, sort " + sort, of(sort), empty[sort]);
        }
        int[] not = {NEVER, SEMIDET, NEVER, SEMIDET, DET};
        for (int kind = 0; kind < 5; kind++) {
            Due.is("ROW of " + kind, of(0, kind), kind);
            Due.is("CHOICE of " + kind, of(1, kind), kind);
            Due.is("NOT of " + kind, of(2, kind), not[kind]);
            Due.is("TEST of " + kind, of(3, kind), NEVER);
        }
    }

    private static void pairs() {
        int[][] row = {
            {DET, SEMIDET, MULTI, NONDET, NEVER},
            {SEMIDET, SEMIDET, NONDET, NONDET, NEVER},
            {MULTI, NONDET, MULTI, NONDET, NEVER},
            {NONDET, NONDET, NONDET, NONDET, NEVER},
            {NEVER, NEVER, NEVER, NEVER, NEVER}};
        int[][] choice = {
            {MULTI, MULTI, MULTI, MULTI, DET},
            {MULTI, NONDET, MULTI, NONDET, SEMIDET},
            {MULTI, MULTI, MULTI, MULTI, MULTI},
            {MULTI, NONDET, MULTI, NONDET, NONDET},
            {DET, SEMIDET, MULTI, NONDET, NEVER}};
        for (int a = 0; a < 5; a++) {
            for (int b = 0; b < 5; b++) {
                Due.is("ROW of " + a + ", " + b, of(0, a, b), row[a][b]);
                Due.is("CHOICE of " + a + ", " + b, of(1, a, b), choice[a][b]);
                Due.is("TEST of " + a + ", " + b, of(3, a, b), NEVER);
            }
        }
    }

    private static void triples() {
        Due.is("ROW of 0, 0, 0", of(0, 0, 0, 0), DET);
        Due.is("ROW of 0, 2, 1", of(0, 0, 2, 1), NONDET);
        Due.is("ROW of 3, 0, 4", of(0, 3, 0, 4), NEVER);
        Due.is("CHOICE of 4, 0, 4", of(1, 4, 0, 4), DET);
        Due.is("CHOICE of 4, 1, 4", of(1, 4, 1, 4), SEMIDET);
        Due.is("CHOICE of 1, 1, 4", of(1, 1, 1, 4), NONDET);
        Due.is("CHOICE of 4, 4, 4", of(1, 4, 4, 4), NEVER);
        Due.is("CHOICE of 1, 4, 0", of(1, 1, 4, 0), MULTI);
    }

    private static void tests() {
        for (int b = 0; b < 5; b++) {
            for (int c = 0; c < 5; c++) {
                Due.is("TEST of 0, " + b + ", " + c, of(3, DET, b, c), b);
                Due.is("TEST of 4, " + b + ", " + c, of(3, NEVER, b, c), c);
            }
        }
        int[] afterMulti = {MULTI, NONDET, MULTI, NONDET, NEVER};
        int[][] afterSemidet = {
            {DET, SEMIDET, MULTI, NONDET, SEMIDET},
            {SEMIDET, SEMIDET, NONDET, NONDET, SEMIDET},
            {MULTI, NONDET, MULTI, NONDET, NONDET},
            {NONDET, NONDET, NONDET, NONDET, NONDET},
            {SEMIDET, SEMIDET, NONDET, NONDET, NEVER}};
        int[][] afterNondet = {
            {MULTI, NONDET, MULTI, NONDET, NONDET},
            {NONDET, NONDET, NONDET, NONDET, NONDET},
            {MULTI, NONDET, MULTI, NONDET, NONDET},
            {NONDET, NONDET, NONDET, NONDET, NONDET},
            {SEMIDET, SEMIDET, NONDET, NONDET, NEVER}};
        for (int b = 0; b < 5; b++) {
            for (int c = 0; c < 5; c++) {
                Due.is("TEST of 2, " + b + ", " + c, of(3, MULTI, b, c), afterMulti[b]);
                Due.is("TEST of 1, " + b + ", " + c, of(3, SEMIDET, b, c), afterSemidet[b][c]);
                Due.is("TEST of 3, " + b + ", " + c, of(3, NONDET, b, c), afterNondet[b][c]);
            }
        }
    }

    /** A CHOICE of ROWS, each a TAKE of variable 0 and a goal: {tag, kind of the goal}. */
    private static int switchOf(int all, int[]... parts) {
        CountDesk desk = new CountDesk();
        int choice = desk.add(0, 1);
        for (int[] part : parts) {
            int row = desk.add(choice, 0);
            desk.take(row, 0, part[0], all);
            desk.goal(row, part[1]);
        }
        return desk.kind(choice);
    }

    private static void switches() {
        int[][] greater = {
            {DET, SEMIDET, MULTI, NONDET, SEMIDET},
            {SEMIDET, SEMIDET, NONDET, NONDET, SEMIDET},
            {MULTI, NONDET, MULTI, NONDET, NONDET},
            {NONDET, NONDET, NONDET, NONDET, NONDET},
            {SEMIDET, SEMIDET, NONDET, NONDET, NEVER}};
        int[] failing = {SEMIDET, SEMIDET, NONDET, NONDET, NEVER};
        for (int a = 0; a < 5; a++) {
            for (int b = 0; b < 5; b++) {
                int[] first = {0, a};
                int[] second = {1, b};
                String both = a + ", " + b;
                Due.is("SWITCH, all arms: " + both, switchOf(2, first, second), greater[a][b]);
                Due.is("SWITCH, one less: " + both, switchOf(3, first, second), failing[greater[a][b]]);
                Due.is("SWITCH, no end: " + both, switchOf(0, first, second), failing[greater[a][b]]);
            }
        }
        int[][] three = {{0, DET}, {2, DET}, {1, DET}};
        Due.is("three arms of 3", switchOf(3, three), DET);
        Due.is("three arms of 4", switchOf(4, three), SEMIDET);
        int[][] shared = {{0, DET}, {1, DET}, {0, DET}};
        Due.is("an arm of two", switchOf(2, shared), MULTI);
        int[][] never = {{0, DET}, {1, DET}, {0, NEVER}};
        Due.is("an arm of two, one never", switchOf(2, never), DET);
        int[][] one = {{0, DET}, {0, NEVER}};
        Due.is("one arm of 1", switchOf(1, one), DET);
        Due.is("one arm of 2", switchOf(2, one), SEMIDET);
        int[][] single = {{0, DET}};
        Due.is("one part is no SWITCH, all 1", switchOf(1, single), DET);
        Due.is("one part is no SWITCH, all 2", switchOf(2, single), SEMIDET);
    }

    /** CHOICE of ROWS of two TAKES each, of the variables x and y. */
    private static int square(int x, int y, int[]... tags) {
        CountDesk desk = new CountDesk();
        int choice = desk.add(0, 1);
        for (int[] pair : tags) {
            int row = desk.add(choice, 0);
            desk.take(row, x, pair[0], 2);
            desk.take(row, y, pair[1], 2);
        }
        return desk.kind(choice);
    }

    private static void switchesInArms() {
        int[][] whole = {{0, 0}, {0, 1}, {1, 0}, {1, 1}};
        Due.is("square", square(0, 1, whole), DET);
        Due.is("square, variables turned", square(1, 0, whole), DET);
        int[][] hole = {{0, 0}, {0, 1}, {1, 0}};
        Due.is("square with a hole", square(0, 1, hole), SEMIDET);
        int[][] twice = {{0, 0}, {0, 1}, {1, 0}, {1, 1}, {1, 1}};
        Due.is("square, one twice", square(0, 1, twice), MULTI);
        int[][] column = {{0, 0}, {0, 1}};
        Due.is("one arm alone, then both", square(0, 1, column), SEMIDET);
        int[][] diagonal = {{0, 0}, {1, 1}};
        Due.is("the second TAKE can fail", square(0, 1, diagonal), SEMIDET);
        int[][] same = {{0, 0}, {0, 0}};
        Due.is("the same in both: no variable counts twice", square(0, 1, same), NONDET);
        lesserVariableInArm();
        differentAllsInArms();
        sameVariableTwice();
    }

    /** The SWITCH of an ARM may be on a lesser variable, which other ARMS do not take. */
    private static void lesserVariableInArm() {
        CountDesk desk = new CountDesk();
        int choice = desk.add(0, 1);
        for (int tag = 0; tag < 2; tag++) {
            int row = desk.add(choice, 0);
            desk.take(row, 9, 0, 2);
            desk.take(row, 3, tag, 2);
        }
        desk.take(choice, 9, 1, 2);
        Due.is("switches", desk.switches(choice), 9);
        Due.is("lesser variable in an arm", desk.kind(choice), DET);
    }

    /** Within an ARM the ALLS of another variable are the same; in the whole they are not. */
    private static void differentAllsInArms() {
        CountDesk desk = new CountDesk();
        int choice = desk.add(0, 1);
        for (int i = 0; i < 5; i++) {
            int row = desk.add(choice, 0);
            desk.take(row, 1, i < 2 ? i : i - 2, i < 2 ? 2 : 3);
            desk.take(row, 5, i < 2 ? 0 : 1, 2);
        }
        Due.is("switches", desk.switches(choice), 5);
        Due.is("arms with different alls", desk.kind(choice), DET);
    }

    /** Only the first TAKE of the variable is known to succeed. */
    private static void sameVariableTwice() {
        CountDesk desk = new CountDesk();
        int choice = desk.add(0, 1);
        int row = desk.add(choice, 0);
        desk.take(row, 0, 0, 2);
        desk.take(row, 0, 1, 2);
        desk.take(choice, 0, 1, 2);
        Due.is("second TAKE of the same", desk.kind(choice), SEMIDET);
        Due.is("arms", desk.arms(choice, 0), 1);
    }

    private static void withinSwitches() {
        CountDesk desk = new CountDesk();
        int choice = desk.add(0, 1);
        int row = desk.add(choice, 0);
        int take = desk.take(row, 0, 0, 2);
        int other = desk.take(choice, 0, 1, 2);
        Due.is("the SWITCH", desk.kind(choice), DET);
        Due.is("a PART by itself", desk.kind(row), SEMIDET);
        Due.is("a TAKE by itself", desk.kind(take), SEMIDET);
        Due.is("another by itself", desk.kind(other), SEMIDET);
        Due.is("NODE 0", desk.kind(0), DET);

        // A CHOICE deeper in a PART is a SWITCH of its own, on the same variable too.
        int inner = desk.add(row, 1);
        Due.is("an empty CHOICE in an arm", desk.kind(choice), SEMIDET);
        desk.take(inner, 0, 0, 2);
        Due.is("a TAKE deeper in", desk.kind(choice), SEMIDET);
        desk.take(inner, 0, 1, 2);
        Due.is("a SWITCH deeper in", desk.kind(inner), DET);
        Due.is("a SWITCH in a SWITCH", desk.kind(choice), DET);
        desk.goal(inner, 0);
        Due.is("no SWITCH deeper in", desk.kind(choice), MULTI);
    }

    /** The NODES go from 0 to the last one: NODE 0 alone, some, all 250, and after clear. */
    private static void noneSuch() {
        CountDesk desk = new CountDesk();
        for (int last = 0; last <= 249; last++) {
            if (last < 100 || last > 245) {
                Due.is("kind(" + last + "), the last", desk.kind(last), last == 0 ? DET : SEMIDET);
                Due.is("kind(" + (last + 1) + "), none such", desk.kind(last + 1), -1);
            }
            if (last < 249) {
                desk.goal(0, SEMIDET);
            }
        }
        desk.clear();
        int[] gone = {1, 248, 249, 250, -1, Integer.MIN_VALUE, Integer.MAX_VALUE};
        for (int node : gone) {
            Due.is("kind(" + node + ") after clear", desk.kind(node), -1);
        }
        Due.is("kind(0) after clear", desk.kind(0), DET);
    }
}
