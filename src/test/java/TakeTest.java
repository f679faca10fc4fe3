/** Promise 6: take (the parents that refuse: AddTest). */
public final class TakeTest {
    private static final int LEAST = Integer.MIN_VALUE;
    private static final int GREATEST = Integer.MAX_VALUE;

    public static void main(String[] args) {
        CountDesk desk = new CountDesk();
        int[][] taken = {{0, 0, 0}, {59, 0, 1}, {30, 99, 0}, {1, 99, 100}, {2, 1, 2}, {3, 0, 100}, {4, 0, 2}};
        for (int i = 0; i < taken.length; i++) {
            int[] t = taken[i];
            Due.is("take(0, " + t[0] + ", " + t[1] + ", " + t[2] + ")", desk.take(0, t[0], t[1], t[2]), i + 1);
            Due.is("sort", desk.node(i + 1, 0), 5);
            for (int k = 0; k < 3; k++) {
                Due.is("node(" + (i + 1) + ", " + (2 + k) + ")", desk.node(i + 1, 2 + k), t[k]);
            }
            Due.is("kind", desk.kind(i + 1), t[2] == 1 ? 0 : 1);
        }
        int[][] refused = {
            {-1, 0, 2}, {60, 0, 2}, {LEAST, 0, 2}, {GREATEST, 0, 2}, {64, 0, 2},
            {0, -1, 2}, {0, -1, 0}, {0, 2, 2}, {0, 3, 2}, {0, 1, 1}, {0, 100, 0}, {0, 100, 100},
            {0, 99, 99}, {0, LEAST, 0}, {0, GREATEST, 0}, {0, LEAST, 5}, {0, GREATEST, 5},
            {0, 0, -1}, {0, 0, 101}, {0, 0, LEAST}, {0, 0, GREATEST}, {0, 100, 101}};
        for (int[] t : refused) {
            Due.is("take(0, " + t[0] + ", " + t[1] + ", " + t[2] + ")", desk.take(0, t[0], t[1], t[2]), -1);
        }
        Due.is("parts", desk.node(0, 1), taken.length);
        takesMake();
        Due.finish();
    }

    /** A TAKE MAKES what is in the row, for the ATOMS behind it, not for itself. */
    private static void takesMake() {
        CountDesk desk = new CountDesk();
        int choice = desk.add(0, 1);
        for (int tag = 0; tag < 2; tag++) {
            int row = desk.add(choice, 0);
            desk.put(4);
            desk.put(6);
            desk.take(row, 6, tag, 2);
            desk.take(row, 4, tag, 2);
        }
        Due.is("4 is made ahead, 6 not", desk.switches(choice), 6);
        Due.is("kind", desk.kind(choice), 1);
    }
}
