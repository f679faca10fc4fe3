/** Promise 3: put. */
public final class PutTest {
    public static void main(String[] args) {
        CountDesk desk = new CountDesk();
        int[] refused = {-1, 60, 61, 64, 124, -60, Integer.MIN_VALUE, Integer.MAX_VALUE};
        for (int x : refused) {
            Due.is("put(" + x + ")", desk.put(x), false);
        }
        Due.is("put(0)", desk.put(0), true);
        Due.is("put(59)", desk.put(59), true);
        Due.is("put(59) once more", desk.put(59), true);
        for (int x : refused) {
            Due.is("put(" + x + ")", desk.put(x), false);
        }
        for (int i = 3; i < 7; i++) {
            Due.is("put number " + (i + 1), desk.put(20 + i), true);
        }
        Due.is("put number 8", desk.put(1), false);
        Due.is("put number 8, wrong", desk.put(60), false);
        desk.kind(0);
        desk.switches(0);
        desk.arms(0, -1);
        desk.fits(0);
        desk.node(0, 0);
        Due.is("questions leave the row", desk.put(1), false);

        eachIsMade();
        allSevenAreMade();
        emptiedBy();
        refusedAtEachCount();
        refusedIsNotMade();
        Due.finish();
    }

    /** Each variable that was put is MADE, so that a TAKE behind the GOAL is not what takes it. */
    private static void eachIsMade() {
        for (int x = 0; x < 60; x++) {
            CountDesk desk = new CountDesk();
            int choice = switchOn(desk, x, x);
            Due.is("made " + x, desk.switches(choice), -1);
            desk.clear();
            choice = switchOn(desk, x, (x + 1) % 60);
            Due.is("not made " + x, desk.switches(choice), x);
        }
    }

    private static int switchOn(CountDesk desk, int x, int made) {
        int choice = desk.add(0, 1);
        int row = desk.add(choice, 0);
        desk.put(made);
        desk.goal(row, 0);
        desk.take(row, x, 0, 2);
        desk.take(choice, x, 1, 2);
        return choice;
    }

    private static void allSevenAreMade() {
        for (int x = 0; x < 9; x++) {
            CountDesk desk = new CountDesk();
            int choice = desk.add(0, 1);
            int row = desk.add(choice, 0);
            for (int i = 0; i < 9; i++) {
                Due.is("put(" + i + ")", desk.put(i), i < 7);
            }
            desk.goal(row, 0);
            desk.take(row, x, 0, 2);
            desk.take(choice, x, 1, 2);
            Due.is("switches, seven made, " + x, desk.switches(choice), x < 7 ? -1 : x);
        }
    }

    /** What puts a NODE in empties the row, also when it is refused. */
    private static void emptiedBy() {
        for (int how = 0; how < 12; how++) {
            CountDesk desk = new CountDesk();
            int choice = desk.add(0, 1);
            int row = desk.add(choice, 0);
            for (int i = 0; i < 7; i++) {
                desk.put(5);
            }
            int want = -1;
            int got = -1;
            switch (how) {
                case 0: got = desk.add(0, 0); want = 3; break;
                case 1: got = desk.add(0, 4); break;
                case 2: got = desk.add(9, 0); break;
                case 3: got = desk.goal(0, 0); want = 3; break;
                case 4: got = desk.goal(0, 5); break;
                case 5: got = desk.goal(-1, 0); break;
                case 6: got = desk.take(0, 5, 0, 2); want = 3; break;
                case 7: got = desk.take(0, 60, 0, 2); break;
                case 8: got = desk.take(0, 5, 2, 2); break;
                case 9: got = desk.take(3, 5, 1, 2); break;
                case 10: got = desk.take(0, 5, 1, 101); break;
                default: got = desk.add(0, -1); break;
            }
            Due.is("emptied by " + how, got, want);
            desk.goal(row, 0);
            desk.take(row, 5, 0, 2);
            desk.take(choice, 5, 1, 2);
            Due.is("switches, emptied by " + how, desk.switches(choice), 5);
            for (int i = 0; i < 7; i++) {
                Due.is("put again, " + how, desk.put(5), true);
            }
            Due.is("put 8th, " + how, desk.put(5), false);
        }
    }

    /** The edges of 0 .. 59 with 0 to 7 in the row; what is refused takes none of the 7 places. */
    private static void refusedAtEachCount() {
        int[] wrong = {-1, 60, Integer.MIN_VALUE, Integer.MAX_VALUE};
        for (int edge = 0; edge <= 59; edge += 59) {
            CountDesk desk = new CountDesk();
            for (int count = 0; count <= 7; count++) {
                for (int x : wrong) {
                    Due.is("put(" + x + ") with " + count, desk.put(x), false);
                }
                Due.is("put(" + edge + ") with " + count, desk.put(edge), count < 7);
            }
            Due.is("put(30) with 7", desk.put(30), false);
            desk.add(0, -1);
            Due.is("put(30) with 0", desk.put(30), true);
        }
    }

    /** A number that is refused is not taken for another one, as by the bits of an int or a long. */
    private static void refusedIsNotMade() {
        int[] wrong = {-1, -4, -64, -60, 60, 63, 64, 119, 123, 128, 256, Integer.MIN_VALUE, Integer.MAX_VALUE};
        for (int x = 0; x < 60; x++) {
            CountDesk desk = new CountDesk();
            int choice = desk.add(0, 1);
            int row = desk.add(choice, 0);
            for (int put : wrong) {
                Due.is("put(" + put + ")", desk.put(put), false);
            }
            Due.is("put(" + (x - 64) + ")", desk.put(x - 64), false);
            Due.is("put(" + (x + 64) + ")", desk.put(x + 64), false);
            desk.goal(row, 0);
            desk.take(row, x, 0, 2);
            desk.take(choice, x, 1, 2);
            Due.is("refused, so not made: " + x, desk.switches(choice), x);
        }
    }
}
