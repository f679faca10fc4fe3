/** Promise 9: arms. */
public final class ArmsTest {
    public static void main(String[] args) {
        CountDesk desk = new CountDesk();
        desk.add(0, 1);
        Due.is("empty", desk.arms(1, -1), 0);
        desk.take(1, 4, 3, 5);
        Due.is("one part", desk.arms(1, -1), 0);
        Due.is("one part, its tag", desk.arms(1, 3), 0);
        int[] tags = {3, 0, 3, 4, 3};
        for (int tag : tags) {
            int row = desk.add(1, 0);
            desk.goal(row, 0);
            desk.take(row, 4, tag, 5);
            desk.take(row, 4, 1, 5);
            desk.take(row, 5, 2, 5);
        }
        int[] want = {1, 0, 0, 4, 1, 0};
        Due.is("arms", desk.arms(1, -1), 3);
        for (int tag = 0; tag < want.length; tag++) {
            Due.is("arm " + tag, desk.arms(1, tag), want[tag]);
        }
        int[] none = {-2, 99, 100, Integer.MIN_VALUE, Integer.MAX_VALUE};
        for (int tag : none) {
            Due.is("arm " + tag, desk.arms(1, tag), 0);
        }
        Due.is("asked again", desk.arms(1, -1), 3);
        int[] wrong = {-1, 0, 2, 3, 4, 200, 250, Integer.MIN_VALUE, Integer.MAX_VALUE};
        for (int node : wrong) {
            Due.is("arms(" + node + ", -1)", desk.arms(node, -1), 0);
            Due.is("arms(" + node + ", 3)", desk.arms(node, 3), 0);
        }
        desk.goal(1, 0);
        Due.is("no SWITCH any more", desk.arms(1, -1), 0);
        Due.is("no SWITCH any more, tag", desk.arms(1, 3), 0);
        manyArms();
        armsOfArmsDoNotCount();
        Due.finish();
    }

    private static void manyArms() {
        CountDesk desk = new CountDesk();
        desk.add(0, 1);
        for (int i = 0; i < 248; i++) {
            desk.take(1, 0, 99 - i % 100, 100);
        }
        Due.is("a hundred arms", desk.arms(1, -1), 100);
        Due.is("arm 99", desk.arms(1, 99), 3);
        Due.is("arm 52", desk.arms(1, 52), 3);
        Due.is("arm 51", desk.arms(1, 51), 2);
        Due.is("arm 0", desk.arms(1, 0), 2);
        Due.is("kind", desk.kind(1), 2);
    }

    private static void armsOfArmsDoNotCount() {
        CountDesk desk = new CountDesk();
        desk.add(0, 1);
        for (int i = 0; i < 6; i++) {
            int row = desk.add(1, 0);
            desk.take(row, 0, i % 2, 2);
            desk.take(row, 1, i / 2 + 2, 5);
        }
        Due.is("arms", desk.arms(1, -1), 2);
        Due.is("arm 0", desk.arms(1, 0), 3);
        Due.is("arm 1", desk.arms(1, 1), 3);
        Due.is("a tag of the arms' own SWITCHES", desk.arms(1, 3), 0);
        Due.is("kind", desk.kind(1), 1);
    }
}
