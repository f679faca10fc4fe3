/** Promises 1 and 2: a new object, and clear. */
public final class NewAndClearTest {
    public static void main(String[] args) {
        CountDesk desk = new CountDesk();
        alone("new", desk);
        rowIsEmpty("new", desk);

        desk.clear();
        alone("clear of a new one", desk);

        desk.add(0, 1);
        desk.goal(1, 3);
        desk.take(1, 7, 2, 3);
        desk.clear();
        alone("clear", desk);
        Due.is("number after clear", desk.add(0, 2), 1);
        Due.is("its sort", desk.node(1, 0), 2);
        Due.is("its parts", desk.node(1, 1), 0);

        for (int i = 0; i < 7; i++) {
            desk.put(9);
        }
        desk.clear();
        rowIsEmpty("clear", desk);

        refillsAfterClear();
        clearWithSoManyPut();
        clearForgetsDepthAndFullness();
        newObjectsAreApart();
        Due.finish();
    }

    private static void alone(String when, CountDesk desk) {
        Due.is(when + ": node(0, 0)", desk.node(0, 0), 0);
        Due.is(when + ": node(0, 1)", desk.node(0, 1), 0);
        Due.is(when + ": node(0, 5)", desk.node(0, 5), -1);
        Due.is(when + ": node(1, 0)", desk.node(1, 0), -1);
        Due.is(when + ": kind(0)", desk.kind(0), 0);
        Due.is(when + ": kind(1)", desk.kind(1), -1);
        Due.is(when + ": switches(1)", desk.switches(1), -1);
        Due.is(when + ": arms(1, -1)", desk.arms(1, -1), 0);
        for (int kind = 0; kind < 4; kind++) {
            Due.is(when + ": fits(" + kind + ")", desk.fits(kind), 0);
        }
    }

    /** All that can be seen of an empty row: seven fit, and an eighth does not. */
    private static void rowIsEmpty(String when, CountDesk desk) {
        for (int i = 0; i < 7; i++) {
            Due.is(when + ": put " + i, desk.put(i), true);
        }
        Due.is(when + ": put 8th", desk.put(8), false);
    }

    private static void refillsAfterClear() {
        CountDesk desk = new CountDesk();
        for (int i = 1; i < 250; i++) {
            desk.goal(0, 3);
        }
        Due.is("full", desk.goal(0, 0), -1);
        desk.clear();
        alone("clear of a full one", desk);
        for (int i = 1; i < 240; i++) {
            Due.is("refill", desk.goal(0, 0), i);
        }
        Due.is("kind(0) refilled", desk.kind(0), 0);
    }

    private static void clearWithSoManyPut() {
        for (int count = 0; count <= 8; count++) {
            CountDesk desk = new CountDesk();
            for (int i = 0; i < count; i++) {
                Due.is("put " + i, desk.put(59 - i), i < 7);
            }
            desk.clear();
            rowIsEmpty("clear, so many put: " + count, desk);
            desk.clear();
            desk.clear();
            alone("clear twice", desk);
            rowIsEmpty("clear twice", desk);
        }
    }

    private static void clearForgetsDepthAndFullness() {
        for (int sort = 0; sort < 4; sort++) {
            CountDesk desk = new CountDesk();
            for (int round = 0; round < 3; round++) {
                for (int depth = 1; depth <= 20; depth++) {
                    Due.is("round " + round + ", depth " + depth, desk.add(depth - 1, sort), depth);
                }
                Due.is("20 deep", desk.add(20, sort), -1);
                desk.clear();
                alone("clear of 20 deep", desk);
                for (int node = 1; node <= 21; node++) {
                    Due.is("gone: " + node, desk.node(node, 0), -1);
                }
            }
        }
    }

    private static void newObjectsAreApart() {
        CountDesk one = new CountDesk();
        one.goal(0, 4);
        one.put(3);
        CountDesk other = new CountDesk();
        alone("another object", other);
        rowIsEmpty("another object", other);
        other.clear();
        Due.is("the first keeps its tree", one.kind(0), 4);
        Due.is("the first keeps its parts", one.node(0, 1), 1);
    }
}
