/** Promise 11: node. */
public final class NodeTest {
    private static final int[] ODD = {-1, -2, -5, Integer.MIN_VALUE, Integer.MAX_VALUE, 255, 256, 1000};

    public static void main(String[] args) {
        CountDesk desk = new CountDesk();
        desk.add(0, 1);
        desk.add(0, 2);
        desk.add(0, 3);
        desk.goal(0, 3);
        desk.take(0, 17, 6, 8);
        desk.goal(3, 4);
        desk.take(3, 18, 0, 0);
        desk.add(3, 0);
        int[][] want = {
            {0, 5, -1, -1, -1, 1, 2, 3, 4, 5, -1},
            {1, 0, -1, -1, -1, -1, -1, -1, -1, -1, -1},
            {2, 0, -1, -1, -1, -1, -1, -1, -1, -1, -1},
            {3, 3, -1, -1, -1, 6, 7, 8, -1, -1, -1},
            {4, 0, 3, -1, -1, -1, -1, -1, -1, -1, -1},
            {5, 0, 17, 6, 8, -1, -1, -1, -1, -1, -1},
            {4, 0, 4, -1, -1, -1, -1, -1, -1, -1, -1},
            {5, 0, 18, 0, 0, -1, -1, -1, -1, -1, -1},
            {0, 0, -1, -1, -1, -1, -1, -1, -1, -1, -1},
            {-1, -1, -1, -1, -1, -1, -1, -1, -1, -1, -1}};
        for (int node = 0; node < want.length; node++) {
            for (int what = 0; what < want[node].length; what++) {
                Due.is("node(" + node + ", " + what + ")", desk.node(node, what), want[node][what]);
            }
            for (int what : ODD) {
                Due.is("node(" + node + ", " + what + ")", desk.node(node, what), -1);
            }
        }
        for (int node : ODD) {
            for (int what = -1; what < 7; what++) {
                Due.is("node(" + node + ", " + what + ")", desk.node(node, what), -1);
            }
        }
        Due.finish();
    }
}
