/** The largest trees: SWITCHES that lie deep in one another, and as many PARTS and ARMS as can be. */
public final class LimitsTest {
    public static void main(String[] args) {
        sixtyDeep(0, 2);
        sixtyDeep(1, 0);
        deepTree();
        allTakes();
        halves();
        Due.finish();
    }

    /** Two ROWS that take all 60 variables; the last one alone tells them apart, if at all. */
    private static void sixtyDeep(int lastTag, int want) {
        CountDesk desk = new CountDesk();
        int choice = desk.add(0, 1);
        for (int i = 0; i < 2; i++) {
            int row = desk.add(choice, 0);
            for (int x = 0; x < 60; x++) {
                boolean last = x == 59;
                desk.take(row, x, last && i == 1 ? lastTag : 0, last ? lastTag + 1 : 1);
            }
        }
        Due.is("switches", desk.switches(choice), 0);
        Due.is("sixty deep", desk.kind(choice), want);
    }

    /** A SWITCH in an ARM of a SWITCH, as deep as PARTS can lie. */
    private static void deepTree() {
        CountDesk desk = new CountDesk();
        int at = 0;
        for (int depth = 0; depth < 18; depth += 2) {
            int choice = desk.add(at, 1);
            desk.take(choice, 0, 1, 2);
            at = desk.add(choice, 0);
            desk.take(at, 0, 0, 2);
        }
        Due.is("nested switches", desk.kind(0), 0);
        int choice = desk.add(at, 1);
        Due.is("an empty choice in the midst", desk.kind(0), 1);
        desk.take(choice, 59, 0, 0);
        desk.take(choice, 59, 0, 0);
        Due.is("the deepest is on a type without an end", desk.kind(0), 3);
        Due.is("a part of it", desk.kind(choice + 1), 1);
        Due.is("nothing lies deeper", desk.add(desk.add(choice, 0), 0), -1);
    }

    private static void allTakes() {
        CountDesk desk = new CountDesk();
        int choice = desk.add(0, 1);
        for (int i = 0; i < 100; i++) {
            desk.take(choice, 59, i, 100);
            Due.is("so many arms: " + i, desk.kind(0), i < 99 ? 1 : 0);
        }
        for (int i = 0; i < 148; i++) {
            Due.is("more parts", desk.take(choice, 59, i % 100, 100), 102 + i);
        }
        Due.is("one too many", desk.take(choice, 59, 0, 100), -1);
        Due.is("kind", desk.kind(0), 2);
        Due.is("arms", desk.arms(choice, -1), 100);
    }

    /** Five TAKES of two constructors in each ROW tell all of them apart, bit by bit. */
    private static void halves() {
        CountDesk desk = new CountDesk();
        int choice = desk.add(0, 1);
        for (int i = 0; i < 32; i++) {
            int row = desk.add(choice, 0);
            for (int bit = 0; bit < 5; bit++) {
                desk.take(row, 50 - bit * 7, i >> bit & 1, 2);
            }
            Due.is("so many rows: " + i, desk.kind(choice), i < 31 ? 1 : 0);
        }
        Due.is("switches", desk.switches(choice), 22);
        Due.is("arm 1", desk.arms(choice, 1), 16);
        int row = desk.add(choice, 0);
        for (int bit = 0; bit < 5; bit++) {
            desk.take(row, 50 - bit * 7, 1, 2);
        }
        Due.is("one of them twice", desk.kind(choice), 2);
    }
}
