/** Promise 11: node. */
public final class NodeTest {
    private static final int[] ODD = {-1, -2, -5, Integer.MIN_VALUE, Integer.MAX_VALUE, 255, 256, 1000};

    public static void main(String[] args) {
        CountDesk desk = new CountDesk();
        desk.add(0, 1);
        desk.add(0, 2);
        desk.add(0, 3);
        desk.goal(0, 3);
        desk.take(0, 17, 6, 8);
        desk.goal(3, 4);
        desk.take(3, 18, 0, 0);
        desk.add(3, 0);
        int[][] want = {
            {0, 5, -1, -1, -1, 1, 2, 3, 4, 5, -1},
            {1, 0, -1, -1, -1, -1, -1, -1, -1, -1, -1},
            {2, 0, -1, -1, -1, -1, -1, -1, -1, -1, -1},
            {3, 3, -1, -1, -1, 6, 7, 8, -1, -1, -1},
            {4, 0, 3, -1, -1, -1, -1, -1, -1, -1, -1},
            {5, 0, 17, 6, 8, -1, -1, -1, -1, -1, -1},
            {4, 0, 4, -1, -1, -1, -1, -1, -1, -1, -1},
            {5, 0, 18, 0, 0, -1, -1, -1, -1, -1, -1},
            {0, 0, -1, -1, -1, -1, -1, -1, -1, -1, -1},
            {-1, -1, -1, -1, -1, -1, -1, -1, -1, -1, -1}};
        for (int node = 0; node < want.length; node++) {
            for (int what = 0; what < want[node].length; what++) {
                Due.is("node(" + node + ", " + what + ")", desk.node(node, what), want[node][what]);
            }
            for (int what : ODD) {
                Due.is("node(" + node + ", " + what + ")", desk.node(node, what), -1);
            }
        }
        for (int node : ODD) {
            for (int what = -1; what < 7; what++) {
                Due.is("node(" + node + ", " + what + ")", desk.node(node, what), -1);
            }
        }
        zeros();
        partsOfFull();
        growing();
        Due.finish();
    }

    /** 0 is a KIND, a variable, a TAG and an ALL, and not the same as none. */
    private static void zeros() {
        CountDesk desk = new CountDesk();
        desk.goal(0, 0);
        desk.take(0, 0, 0, 0);
        desk.take(0, 59, 99, 100);
        desk.goal(0, 4);
        int[][] want = {{4, 0, 0, -1, -1, -1}, {5, 0, 0, 0, 0, -1}, {5, 0, 59, 99, 100, -1}, {4, 0, 4, -1, -1, -1}};
        for (int i = 0; i < want.length; i++) {
            for (int what = 0; what < 6; what++) {
                Due.is("node(" + (i + 1) + ", " + what + ")", desk.node(i + 1, what), want[i][what]);
            }
        }
    }

    private static void partsOfFull() {
        CountDesk desk = new CountDesk();
        for (int number = 1; number <= 249; number++) {
            desk.add(0, number % 4);
        }
        Due.is("PARTS", desk.node(0, 1), 249);
        for (int k = 0; k < 249; k++) {
            Due.is("PART " + k, desk.node(0, 5 + k), k + 1);
        }
        Due.is("PART 249", desk.node(0, 5 + 249), -1);
        Due.is("PART 250", desk.node(0, 5 + 250), -1);
        Due.is("node(249, 0)", desk.node(249, 0), 1);
        Due.is("node(250, 0)", desk.node(250, 0), -1);
        Due.is("node(250, 1)", desk.node(250, 1), -1);
    }

    /** The k-th PART is there from when it was put in, and gone after clear. */
    private static void growing() {
        for (int sort = 0; sort < 4; sort++) {
            CountDesk desk = new CountDesk();
            desk.add(0, sort);
            int room = sort == 2 ? 1 : sort == 3 ? 3 : 10;
            for (int k = 0; k < room; k++) {
                Due.is("PARTS of sort " + sort, desk.node(1, 1), k);
                Due.is("not yet", desk.node(1, 5 + k), -1);
                desk.goal(1, 0);
                Due.is("the k-th", desk.node(1, 5 + k), 2 + k);
                Due.is("the one behind it", desk.node(1, 6 + k), -1);
            }
            Due.is("PARTS at last", desk.node(1, 1), room);
            desk.clear();
            for (int what = 0; what < 7; what++) {
                Due.is("node(1, " + what + ") after clear", desk.node(1, what), -1);
            }
        }
    }
}
