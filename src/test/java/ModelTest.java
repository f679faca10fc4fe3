/** Promises 1 to 11: long runs of calls, each answer held against the Model's. */
public final class ModelTest {
    private static final int RUNS = 2000;

    private CountDesk desk = new CountDesk();
    private Model model = new Model();
    private final StringBuilder told = new StringBuilder();
    private long state;
    private int calls;
    private int nodes;
    private int switchesSeen;

    private ModelTest(long seed) {
        state = seed * 7919 + 12345;
    }

    public static void main(String[] args) {
        int[] kindsSeen = new int[5];
        int switchesSeen = 0;
        for (int run = 0; run < RUNS && Due.wrongSoFar() == 0; run++) {
            ModelTest test = new ModelTest(run);
            test.play(run % 4);
            kindsSeen[test.desk.kind(0)]++;
            switchesSeen += test.switchesSeen;
        }
        for (int kind = 0; kind < 5; kind++) {
            Due.is("runs that ended with kind " + kind, kindsSeen[kind] > 0, true);
        }
        Due.is("many switches were seen: " + switchesSeen, switchesSeen > 3 * RUNS, true);
        Due.finish();
    }

    /** The same numbers in every run of the test. */
    private int pick(int bound) {
        state = state * 6364136223846793005L + 1442695040888963407L;
        return (int) ((state >>> 33) % bound);
    }

    private void play(int style) {
        nodes = 1;
        while (calls < 415 && Due.wrongSoFar() == 0) {
            if (style == 3) {
                anything();
            } else if (pick(5) == 0) {
                growSwitch(2 + style);
            } else {
                grow(2 + style * 3);
            }
            if (pick(90) == 0) {
                desk.clear();
                model.clear();
                note("clear()", 0, 0);
                nodes = 1;
            }
            ask();
        }
    }

    private void note(String call, int got, int want) {
        calls++;
        told.append(call).append(' ');
        Due.is(call, got, want);
        if (got != want) {
            System.out.println(told);
        }
    }

    private int someNode() {
        return pick(3) == 0 ? pick(nodes) : Math.max(0, nodes - 1 - pick(5));
    }

    private int someRow() {
        int node = pick(nodes);
        return model.node(node, 0) == 0 ? node : 0;
    }

    private void put(int x) {
        note("put(" + x + ")", desk.put(x) ? 1 : 0, model.put(x) ? 1 : 0);
    }

    private int entered(String call, int got, int want) {
        note(call, got, want);
        nodes += got > 0 ? 1 : 0;
        return got;
    }

    private int add(int parent, int sort) {
        return entered("add(" + parent + ", " + sort + ")", desk.add(parent, sort), model.add(parent, sort));
    }

    private int goal(int parent, int kind) {
        return entered("goal(" + parent + ", " + kind + ")", desk.goal(parent, kind), model.goal(parent, kind));
    }

    private int take(int parent, int x, int tag, int all) {
        return entered("take(" + parent + ", " + x + ", " + tag + ", " + all + ")",
                desk.take(parent, x, tag, all), model.take(parent, x, tag, all));
    }

    private void grow(int variables) {
        int parent = someNode();
        int how = pick(10);
        if (pick(6) == 0) {
            put(pick(variables));
        }
        if (how < 4) {
            add(parent, how < 2 ? how : pick(4));
        } else if (how < 6) {
            goal(parent, pick(5));
        } else {
            int all = pick(4);
            take(parent, pick(variables), pick(all == 0 ? 3 : all), all);
        }
    }

    /** A CHOICE that is likely to be a SWITCH, and its ARMS SWITCHES too. */
    private void growSwitch(int variables) {
        int choice = add(someRow(), 1);
        int parts = 2 + pick(5);
        int all = pick(4);
        for (int i = 0; i < parts; i++) {
            boolean alone = pick(8) == 0;
            int row = alone ? choice : add(choice, 0);
            int takes = alone ? 1 : 1 + pick(variables);
            for (int k = 0; k < takes; k++) {
                if (pick(12) == 0) {
                    put(pick(variables));
                }
                int own = pick(10) == 0 ? pick(4) : all;
                take(row, pick(6) == 0 ? pick(variables) : k, pick(own == 0 ? 2 : own), own);
            }
            if (!alone && pick(3) == 0) {
                goal(row, pick(3) == 0 ? pick(5) : 0);
            }
            if (pick(2) == 0) {
                askSwitch(choice);
            }
        }
        askSwitch(choice);
    }

    private int odd(int most) {
        int[] edges = {-1, -2, Integer.MIN_VALUE, Integer.MAX_VALUE, most, most + 1, most - 1};
        return pick(8) == 0 ? edges[pick(edges.length)] : pick(most);
    }

    private void anything() {
        switch (pick(5)) {
            case 0:
                put(odd(60));
                break;
            case 1:
                goal(odd(nodes), odd(5));
                break;
            case 2:
                take(odd(nodes), odd(60), odd(100), odd(101));
                break;
            default:
                add(odd(nodes), odd(4));
        }
    }

    private void ask() {
        int node = odd(nodes);
        askSwitch(node);
        note("kind(0)", desk.kind(0), model.kind(0));
        if (pick(4) == 0) {
            int kind = odd(4);
            note("fits(" + kind + ")", desk.fits(kind), model.fits(kind));
            int what = odd(9);
            note("node(" + node + ", " + what + ")", desk.node(node, what), model.node(node, what));
        }
        if (calls > 380) {
            askAll();
        }
    }

    private void askSwitch(int node) {
        note("kind(" + node + ")", desk.kind(node), model.kind(node));
        note("switches(" + node + ")", desk.switches(node), model.switches(node));
        switchesSeen += model.switches(node) >= 0 ? 1 : 0;
        int tag = pick(3) == 0 ? odd(100) : pick(4) - 1;
        note("arms(" + node + ", " + tag + ")", desk.arms(node, tag), model.arms(node, tag));
    }

    /** Near the end of a run, a look at the NODES all together. */
    private void askAll() {
        for (int node = 0; node < nodes && calls < 508; node++) {
            note("kind(" + node + ")", desk.kind(node), model.kind(node));
        }
    }
}
