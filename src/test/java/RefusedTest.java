/**
 * Promises 4, 5 and 6: each reason for which a NODE is refused, by itself. What is refused answers
 * NONE, leaves the tree as it was, and empties the row.
 */
public final class RefusedTest {
    private static final int LEAST = Integer.MIN_VALUE;
    private static final int GREATEST = Integer.MAX_VALUE;
    private static final int SEVEN = 7;
    /** So many NODES are in house(). */
    private static final int HOUSE = 11;
    private static final String[] HOW = {"add", "goal", "take"};

    /** A call that puts a NODE in. */
    private interface Call {
        int on(CountDesk desk);
    }

    public static void main(String[] args) {
        noSuchParent();
        parentIsAtom();
        parentIsFull();
        parentIsTwentyDeep();
        wrongSort();
        wrongKind();
        wrongVariable();
        wrongAll();
        wrongTag();
        twoHundredAndFifty();
        fullWithEachSort();
        Due.finish();
    }

    /** A call that only its parent can make wrong. */
    private static Call good(int how, int parent) {
        switch (how) {
            case 0: return desk -> desk.add(parent, 3);
            case 1: return desk -> desk.goal(parent, 4);
            default: return desk -> desk.take(parent, 59, 99, 100);
        }
    }

    /** NODES 1 CHOICE, 2 ROW in it; 3 NOT and 5 TEST, both full; 9 GOAL, 10 TAKE; 0 is their parent. */
    private static CountDesk house() {
        CountDesk desk = new CountDesk();
        desk.add(0, 1);
        desk.add(1, 0);
        desk.add(0, 2);
        desk.goal(3, 0);
        desk.add(0, 3);
        desk.add(5, 0);
        desk.goal(5, 1);
        desk.take(5, 0, 0, 1);
        desk.goal(0, 0);
        desk.take(0, 59, 0, 2);
        return desk;
    }

    private static String tree(CountDesk desk, int count) {
        StringBuilder told = new StringBuilder();
        for (int node = 0; node <= count; node++) {
            int parts = desk.node(node, 1);
            told.append(node).append(": ").append(desk.node(node, 0)).append(' ').append(desk.kind(node))
                    .append(' ').append(parts).append(' ').append(desk.node(node, 5 + parts - 1))
                    .append(' ').append(desk.node(node, 5 + parts)).append(' ');
        }
        return told.toString();
    }

    private static void fillRow(String name, CountDesk desk, int x) {
        for (int i = 0; i < SEVEN; i++) {
            Due.is(name + ": put", desk.put(x), true);
        }
        Due.is(name + ": put, full", desk.put(x), false);
    }

    private static void refusedIn(CountDesk desk, int count, String name, Call call) {
        String before = tree(desk, count);
        fillRow(name, desk, 31);
        Due.is(name, call.on(desk), -1);
        Due.is(name + " leaves " + before, before.equals(tree(desk, count)), true);
        fillRow(name + ", row empty", desk, 31);
        Due.is(name + " again", call.on(desk), -1);
        nothingIsMade(desk, name, count);
    }

    private static void refused(String name, Call call) {
        refusedIn(house(), HOUSE, name, call);
    }

    /** A GOAL put in now MAKES nothing, so a TAKE of 31 behind it tells. */
    private static void nothingIsMade(CountDesk desk, String name, int count) {
        Due.is(name + ": the next number", desk.goal(2, 0), count);
        desk.take(2, 31, 0, 2);
        desk.take(1, 31, 1, 2);
        Due.is(name + ": not made", desk.switches(1), 31);
    }

    private static void noSuchParent() {
        int[] wrong = {-1, -2, HOUSE, HOUSE + 1, 249, 250, 251, LEAST, GREATEST};
        for (int how = 0; how < 3; how++) {
            for (int parent : wrong) {
                refused(HOW[how] + " to " + parent, good(how, parent));
            }
            Due.is(HOW[how] + " to 0", good(how, 0).on(house()), HOUSE);
            Due.is(HOW[how] + " to 1", good(how, 1).on(house()), HOUSE);
            Due.is(HOW[how] + " to 6", good(how, 6).on(house()), HOUSE);
            CountDesk desk = new CountDesk();
            int last = desk.add(0, 0);
            Due.is(HOW[how] + " to the last NODE", good(how, last).on(desk), 2);
        }
    }

    private static void parentIsAtom() {
        for (int how = 0; how < 3; how++) {
            refused(HOW[how] + " to a GOAL", good(how, 9));
            refused(HOW[how] + " to a TAKE", good(how, 10));
            refused(HOW[how] + " to a GOAL in NOT", good(how, 4));
            refused(HOW[how] + " to a TAKE in TEST", good(how, 8));
        }
    }

    private static void parentIsFull() {
        for (int how = 0; how < 3; how++) {
            refused(HOW[how] + " to NOT with one", good(how, 3));
            refused(HOW[how] + " to TEST with three", good(how, 5));
            for (int first = 0; first < 3; first++) {
                CountDesk desk = new CountDesk();
                desk.add(0, 2);
                desk.add(0, 3);
                Due.is(HOW[first] + " to NOT", good(first, 1).on(desk), 3);
                Due.is(HOW[how] + " to NOT with one", good(how, 1).on(desk), -1);
                Due.is(HOW[first] + " to TEST", good(first, 2).on(desk), 4);
                Due.is(HOW[how] + " to TEST with one", good(how, 2).on(desk), 5);
                Due.is(HOW[first] + " to TEST with two", good(first, 2).on(desk), 6);
                Due.is(HOW[how] + " to TEST with three", good(how, 2).on(desk), -1);
                Due.is("parts of NOT", desk.node(1, 1), 1);
                Due.is("parts of TEST", desk.node(2, 1), 3);
            }
        }
    }

    private static void parentIsTwentyDeep() {
        for (int how = 0; how < 3; how++) {
            for (int sort = 0; sort < 4; sort++) {
                CountDesk desk = chain(20, sort);
                refusedIn(desk, 23, HOW[how] + " to sort " + sort + " 20 deep", good(how, 22));
                desk = chain(19, sort);
                Due.is(HOW[how] + " to sort " + sort + " 19 deep", good(how, 21).on(desk), 22);
                Due.is("it is the PART", desk.node(21, 5), 22);
            }
        }
    }

    /** NODES 1 CHOICE, 2 ROW in it; then one SORT in one another, d deep the NODE d + 2. */
    private static CountDesk chain(int depth, int sort) {
        CountDesk desk = new CountDesk();
        desk.add(0, 1);
        desk.add(1, 0);
        for (int d = 1; d <= depth; d++) {
            Due.is(d + " deep", desk.add(d == 1 ? 0 : d + 1, sort), d + 2);
        }
        return desk;
    }

    private static void wrongSort() {
        int[] wrong = {-1, -2, 4, 5, 6, LEAST, GREATEST};
        for (int sort : wrong) {
            refused("add(0, " + sort + ")", desk -> desk.add(0, sort));
        }
        for (int sort = 0; sort <= 3; sort++) {
            Due.is("add(0, " + sort + ")", house().add(0, sort), HOUSE);
        }
    }

    private static void wrongKind() {
        int[] wrong = {-1, -2, 5, 6, LEAST, GREATEST};
        for (int kind : wrong) {
            refused("goal(0, " + kind + ")", desk -> desk.goal(0, kind));
        }
        for (int kind = 0; kind <= 4; kind++) {
            Due.is("goal(0, " + kind + ")", house().goal(0, kind), HOUSE);
        }
    }

    private static void wrongVariable() {
        int[] wrong = {-1, -2, 60, 61, 63, 64, LEAST, GREATEST};
        for (int x : wrong) {
            refused("take(0, " + x + ", 0, 2)", desk -> desk.take(0, x, 0, 2));
            refused("take(0, " + x + ", 0, 0)", desk -> desk.take(0, x, 0, 0));
        }
        for (int x = 0; x <= 59; x++) {
            Due.is("take(0, " + x + ", 0, 2)", house().take(0, x, 0, 2), HOUSE);
        }
    }

    private static void wrongAll() {
        int[] wrong = {-1, -2, 101, 102, LEAST, GREATEST};
        for (int all : wrong) {
            refused("take(0, 0, 0, " + all + ")", desk -> desk.take(0, 0, 0, all));
            refused("take(0, 0, 99, " + all + ")", desk -> desk.take(0, 0, 99, all));
        }
        for (int all = 0; all <= 100; all++) {
            Due.is("take(0, 0, 0, " + all + ")", house().take(0, 0, 0, all), HOUSE);
        }
    }

    private static void wrongTag() {
        for (int all = 0; all <= 100; all++) {
            int last = all == 0 ? 99 : all - 1;
            Due.is("take(0, 0, " + last + ", " + all + ")", house().take(0, 0, last, all), HOUSE);
            Due.is("take(0, 0, " + (last + 1) + ", " + all + ")", house().take(0, 0, last + 1, all), -1);
            Due.is("take(0, 0, -1, " + all + ")", house().take(0, 0, -1, all), -1);
        }
        int[] alls = {0, 1, 2, 99, 100};
        for (int all : alls) {
            int first = all == 0 ? 100 : all;
            int[] wrong = {-1, -2, first, first + 1, 100, 101, LEAST, GREATEST};
            for (int tag : wrong) {
                refused("take(0, 0, " + tag + ", " + all + ")", desk -> desk.take(0, 0, tag, all));
            }
        }
    }

    /** The tree full: NODE 1 a CHOICE with all the others in it. */
    private static CountDesk full(int how) {
        CountDesk desk = new CountDesk();
        desk.add(0, 1);
        for (int number = 2; number <= 249; number++) {
            Due.is(HOW[how] + " as number " + number, good(how, 1).on(desk), number);
        }
        return desk;
    }

    private static void twoHundredAndFifty() {
        for (int first = 0; first < 3; first++) {
            for (int how = 0; how < 3; how++) {
                CountDesk desk = full(first);
                int kind = desk.kind(0);
                for (int parent = 0; parent < 2; parent++) {
                    fillRow("full", desk, 59);
                    Due.is(HOW[how] + " to " + parent + " as number 250", good(how, parent).on(desk), -1);
                    fillRow("full, row empty", desk, 59);
                    Due.is(HOW[how] + " again", good(how, parent).on(desk), -1);
                }
                Due.is("kind(0)", desk.kind(0), kind);
                Due.is("parts of 0", desk.node(0, 1), 1);
                Due.is("parts of 1", desk.node(1, 1), 248);
                Due.is("the last one", desk.node(1, 5 + 247), 249);
                Due.is("none behind it", desk.node(1, 5 + 248), -1);
                Due.is("node(249, 0)", desk.node(249, 0), first == 0 ? 3 : first + 3);
                Due.is("node(250, 0)", desk.node(250, 0), -1);
                Due.is("kind(250)", desk.kind(250), -1);
                desk.clear();
                Due.is(HOW[how] + " after clear", good(how, 0).on(desk), 1);
            }
        }
    }

    /** The 250th NODE has no room either, of whatever SORT it is. */
    private static void fullWithEachSort() {
        for (int sort = 0; sort < 4; sort++) {
            for (int how = 0; how < 3; how++) {
                CountDesk desk = new CountDesk();
                for (int number = 1; number < 249; number++) {
                    desk.goal(0, 0);
                }
                Due.is("the last one", desk.add(0, sort), 249);
                Due.is(HOW[how] + " to 249", good(how, 249).on(desk), -1);
                Due.is("parts of 249", desk.node(249, 1), 0);
                Due.is("parts of 0", desk.node(0, 1), 249);
            }
        }
    }
}
