/** Promise 10: fits. */
public final class FitsTest {
    public static void main(String[] args) {
        int[][] want = {
            {0, 0, 0, 0},
            {1, 0, 1, 0},
            {2, 2, 0, 0},
            {1, 2, 1, 0},
            {1, 0, 1, 0}};
        for (int own = 0; own < 5; own++) {
            CountDesk desk = new CountDesk();
            desk.goal(0, own);
            for (int kind = 0; kind < 4; kind++) {
                Due.is("fits(" + kind + ") of kind " + own, desk.fits(kind), want[own][kind]);
            }
            int[] other = {-1, 4, 5, Integer.MIN_VALUE, Integer.MAX_VALUE};
            for (int kind : other) {
                Due.is("fits(" + kind + ") of kind " + own, desk.fits(kind), 3);
            }
        }
        knowsSwitches();
        asksNodeZero();
        emptyAndAfterClear();
        Due.finish();
    }

    private static void knowsSwitches() {
        CountDesk desk = new CountDesk();
        int choice = desk.add(0, 1);
        desk.take(choice, 0, 0, 2);
        Due.is("one constructor of two", desk.fits(0), 1);
        desk.take(choice, 0, 1, 2);
        Due.is("both constructors", desk.fits(0), 0);
        desk.take(choice, 0, 1, 2);
        Due.is("one of them twice", desk.fits(0), 2);
        Due.is("one of them twice, MULTI", desk.fits(2), 0);
    }

    private static void asksNodeZero() {
        CountDesk desk = new CountDesk();
        desk.goal(0, 0);
        desk.goal(0, 2);
        Due.is("a row of DET and MULTI, DET", desk.fits(0), 2);
        desk.goal(0, 1);
        Due.is("and SEMIDET, SEMIDET", desk.fits(1), 2);
        Due.is("and SEMIDET, DET: failing is asked first", desk.fits(0), 1);
        desk.goal(0, 4);
        Due.is("and NEVER, SEMIDET", desk.fits(1), 0);
    }

    private static void emptyAndAfterClear() {
        CountDesk desk = new CountDesk();
        int[] edges = {-1, 0, 3, 4, Integer.MIN_VALUE, Integer.MAX_VALUE};
        int[] ofEmpty = {3, 0, 0, 3, 3, 3};
        int[] ofNondet = {3, 1, 0, 3, 3, 3};
        for (int i = 0; i < edges.length; i++) {
            Due.is("fits(" + edges[i] + ") of NODE 0 alone", desk.fits(edges[i]), ofEmpty[i]);
        }
        desk.goal(0, 3);
        for (int i = 0; i < edges.length; i++) {
            Due.is("fits(" + edges[i] + ") of NONDET", desk.fits(edges[i]), ofNondet[i]);
        }
        Due.is("NONDET, SEMIDET: MANY", desk.fits(1), 2);
        Due.is("NONDET, MULTI: it can fail", desk.fits(2), 1);
        desk.clear();
        for (int i = 0; i < edges.length; i++) {
            Due.is("fits(" + edges[i] + ") after clear", desk.fits(edges[i]), ofEmpty[i]);
        }
    }
}
