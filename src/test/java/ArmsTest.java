/** Promise 9: arms. */
public final class ArmsTest {
    public static void main(String[] args) {
        CountDesk desk = new CountDesk();
        desk.add(0, 1);
        Due.is("empty", desk.arms(1, -1), 0);
        desk.take(1, 4, 3, 5);
        Due.is("one part", desk.arms(1, -1), 0);
        Due.is("one part, its tag", desk.arms(1, 3), 0);
        int[] tags = {3, 0, 3, 4, 3};
        for (int tag : tags) {
            int row = desk.add(1, 0);
            desk.goal(row, 0);
            desk.take(row, 4, tag, 5);
            desk.take(row, 4, 1, 5);
            desk.take(row, 5, 2, 5);
        }
        int[] want = {1, 0, 0, 4, 1, 0};
        Due.is("arms", desk.arms(1, -1), 3);
        for (int tag = 0; tag < want.length; tag++) {
            Due.is("arm " + tag, desk.arms(1, tag), want[tag]);
        }
        int[] none = {-2, 99, 100, Integer.MIN_VALUE, Integer.MAX_VALUE};
        for (int tag : none) {
            Due.is("arm " + tag, desk.arms(1, tag), 0);
        }
        Due.is("asked again", desk.arms(1, -1), 3);
        int[] wrong = {-1, 0, 2, 3, 4, 200, 250, Integer.MIN_VALUE, Integer.MAX_VALUE};
        for (int node : wrong) {
            Due.is("arms(" + node + ", -1)", desk.arms(node, -1), 0);
            Due.is("arms(" + node + ", 3)", desk.arms(node, 3), 0);
        }
        desk.goal(1, 0);
        Due.is("no SWITCH any more", desk.arms(1, -1), 0);
        Due.is("no SWITCH any more, tag", desk.arms(1, 3), 0);
        manyArms();
        armsOfArmsDoNotCount();
        edgesOfTags();
        otherSorts();
        Due.finish();
    }

    private static void manyArms() {
        CountDesk desk = new CountDesk();
        desk.add(0, 1);
        for (int i = 0; i < 248; i++) {
            desk.take(1, 0, 99 - i % 100, 100);
        }
        Due.is("a hundred arms", desk.arms(1, -1), 100);
        Due.is("arm 99", desk.arms(1, 99), 3);
        Due.is("arm 52", desk.arms(1, 52), 3);
        Due.is("arm 51", desk.arms(1, 51), 2);
        Due.is("arm 0", desk.arms(1, 0), 2);
        Due.is("kind", desk.kind(1), 2);
    }

    private static void armsOfArmsDoNotCount() {
        CountDesk desk = new CountDesk();
        desk.add(0, 1);
        for (int i = 0; i < 6; i++) {
            int row = desk.add(1, 0);
            desk.take(row, 0, i % 2, 2);
            desk.take(row, 1, i / 2 + 2, 5);
        }
        Due.is("arms", desk.arms(1, -1), 2);
        Due.is("arm 0", desk.arms(1, 0), 3);
        Due.is("arm 1", desk.arms(1, 1), 3);
        Due.is("a tag of the arms' own SWITCHES", desk.arms(1, 3), 0);
        Due.is("kind", desk.kind(1), 1);
    }

    /** Of an ALL the least and the greatest TAG have an ARM, those beside them none. */
    private static void edgesOfTags() {
        int[] alls = {0, 1, 2, 99, 100};
        for (int all : alls) {
            int last = all == 0 ? 99 : all - 1;
            CountDesk desk = new CountDesk();
            int choice = desk.add(0, 1);
            desk.take(choice, 59, 0, all);
            desk.take(choice, 59, last, all);
            desk.take(choice, 59, last, all);
            Due.is("arms, ALL " + all, desk.arms(choice, -1), last == 0 ? 1 : 2);
            Due.is("arm 0, ALL " + all, desk.arms(choice, 0), last == 0 ? 3 : 1);
            Due.is("arm " + last, desk.arms(choice, last), last == 0 ? 3 : 2);
            int[] none = {-2, last + 1, 100, 101, Integer.MIN_VALUE, Integer.MAX_VALUE};
            for (int tag : none) {
                Due.is("arm " + tag + ", ALL " + all, desk.arms(choice, tag), 0);
            }
        }
    }

    /** What is no CHOICE is no SWITCH, though its PARTS are as those of one. */
    private static void otherSorts() {
        for (int sort = 0; sort < 4; sort++) {
            CountDesk desk = new CountDesk();
            int node = desk.add(0, sort);
            for (int tag = 0; tag < 3; tag++) {
                desk.take(node, 0, tag, 3);
                desk.take(0, 0, tag, 3);
            }
            Due.is("arms of sort " + sort, desk.arms(node, -1), sort == 1 ? 3 : 0);
            Due.is("an arm of sort " + sort, desk.arms(node, 0), sort == 1 ? 1 : 0);
            Due.is("arms of NODE 0", desk.arms(0, -1), 0);
            Due.is("an arm of NODE 0", desk.arms(0, 0), 0);
            Due.is("arms of a TAKE", desk.arms(2, -1), 0);
            Due.is("an arm of a TAKE", desk.arms(2, 0), 0);
        }
    }
}
