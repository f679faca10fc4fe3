/** Promises 4, 5 and 6 where they are the same: which parents refuse; and what add alone refuses. */
public final class AddTest {
    private static final String[] HOW = {"add", "goal", "take"};

    public static void main(String[] args) {
        sorts();
        for (int how = 0; how < 3; how++) {
            wrongParents(how);
            fullParents(how);
            tooDeep(how);
            tooMany(how);
        }
        Due.finish();
    }

    private static int in(CountDesk desk, int how, int parent) {
        switch (how) {
            case 0: return desk.add(parent, 0);
            case 1: return desk.goal(parent, 0);
            default: return desk.take(parent, 0, 0, 1);
        }
    }

    private static void sorts() {
        CountDesk desk = new CountDesk();
        for (int sort = 0; sort < 4; sort++) {
            Due.is("add(0, " + sort + ")", desk.add(0, sort), sort + 1);
            Due.is("its sort", desk.node(sort + 1, 0), sort);
            Due.is("its place", desk.node(0, 5 + sort), sort + 1);
        }
        int[] refused = {-1, 4, 5, 6, Integer.MIN_VALUE, Integer.MAX_VALUE};
        for (int sort : refused) {
            Due.is("add(0, " + sort + ")", desk.add(0, sort), -1);
        }
        Due.is("parts", desk.node(0, 1), 4);
        Due.is("next number", desk.add(2, 1), 5);
        Due.is("last part of 2", desk.node(2, 5), 5);
    }

    private static void wrongParents(int how) {
        CountDesk desk = new CountDesk();
        desk.goal(0, 0);
        desk.take(0, 0, 0, 1);
        int[] refused = {1, 2, 3, 4, 249, 250, 251, -1, -2, Integer.MIN_VALUE, Integer.MAX_VALUE};
        for (int parent : refused) {
            Due.is(HOW[how] + " to " + parent, in(desk, how, parent), -1);
        }
        Due.is(HOW[how] + " to 0", in(desk, how, 0), 3);
        Due.is("parts of the goal", desk.node(1, 1), 0);
    }

    private static void fullParents(int how) {
        CountDesk desk = new CountDesk();
        desk.add(0, 2);
        desk.add(0, 3);
        Due.is(HOW[how] + " to NOT", in(desk, how, 1), 3);
        Due.is(HOW[how] + " to NOT with one", in(desk, how, 1), -1);
        Due.is(HOW[how] + " to TEST", in(desk, how, 2), 4);
        Due.is(HOW[how] + " to TEST with one", in(desk, how, 2), 5);
        Due.is(HOW[how] + " to TEST with two", in(desk, how, 2), 6);
        Due.is(HOW[how] + " to TEST with three", in(desk, how, 2), -1);
        Due.is("parts of NOT", desk.node(1, 1), 1);
        Due.is("parts of TEST", desk.node(2, 1), 3);
    }

    private static void tooDeep(int how) {
        for (int sort = 0; sort < 4; sort++) {
            CountDesk desk = new CountDesk();
            for (int depth = 1; depth <= 20; depth++) {
                Due.is("depth " + depth, desk.add(depth - 1, sort), depth);
            }
            Due.is(HOW[how] + " to 20 deep", in(desk, how, 20), -1);
            if (sort < 2) {
                Due.is(HOW[how] + " to 19 deep", in(desk, how, 19), 21);
            }
        }
    }

    private static void tooMany(int how) {
        CountDesk desk = new CountDesk();
        for (int i = 1; i <= 249; i++) {
            Due.is("number", in(desk, how, 0), i);
        }
        Due.is(HOW[how] + " as 251st", in(desk, how, 0), -1);
        Due.is("parts", desk.node(0, 1), 249);
        Due.is("last part", desk.node(0, 5 + 248), 249);
        Due.is("kind(249)", desk.kind(249), 0);
        Due.is("kind(250)", desk.kind(250), -1);
    }
}
