/** The boundary cases of "Terms": PARTS that are missing, one PART or two, ALL 0 and 1, MOST 0. */
public final class TermsTest {
    private static final int ROW = 0;
    private static final int CHOICE = 1;
    private static final int NOT = 2;
    private static final int TEST = 3;

    private static final int DET = 0;
    private static final int SEMIDET = 1;
    private static final int MULTI = 2;
    private static final int NONDET = 3;
    private static final int NEVER = 4;

    public static void main(String[] args) {
        withoutParts();
        choiceWithoutPartsAfterOthers();
        testWithTooFew();
        testWithThree();
        choiceOfOne();
        choiceOfTwo();
        neverInRow();
        neverInNot();
        neverInTest();
        neverInChoice();
        endlessType();
        oneConstructor();
        lessArmsThanAll();
        neverInSwitch();
        variables();
        twentyDeep();
        Due.finish();
    }

    private static int of(int sort, int... kinds) {
        CountDesk desk = new CountDesk();
        int node = desk.add(0, sort);
        for (int kind : kinds) {
            desk.goal(node, kind);
        }
        return desk.kind(node);
    }

    private static void withoutParts() {
        Due.is("ROW without PARTS", of(ROW), DET);
        Due.is("CHOICE without PARTS", of(CHOICE), NEVER);
        Due.is("NOT without a PART", of(NOT), NEVER);
        Due.is("TEST without PARTS", of(TEST), NEVER);
        Due.is("NODE 0 without PARTS", new CountDesk().kind(0), DET);

        // Such a NODE counts as NEVER (a ROW as DET) for those around it too.
        int[] inNot = {NEVER, DET, DET, DET};
        for (int sort = 0; sort < 4; sort++) {
            CountDesk desk = new CountDesk();
            int not = desk.add(0, NOT);
            desk.add(not, sort);
            Due.is("NOT of an empty one of sort " + sort, desk.kind(not), inNot[sort]);
        }
    }

    /** Nothing of a CHOICE that was looked at before is left for one without PARTS. */
    private static void choiceWithoutPartsAfterOthers() {
        for (int kind = 0; kind < 5; kind++) {
            CountDesk desk = new CountDesk();
            int filled = desk.add(0, CHOICE);
            desk.goal(filled, kind);
            Due.is("CHOICE of " + kind, desk.kind(filled), kind);
            int empty = desk.add(0, CHOICE);
            Due.is("an empty CHOICE behind it", desk.kind(empty), NEVER);
            Due.is("it is no SWITCH", desk.switches(empty), -1);
            Due.is("it has no ARMS", desk.arms(empty, -1), 0);
            Due.is("the filled one", desk.kind(filled), kind);
        }
        CountDesk desk = new CountDesk();
        int filled = desk.add(0, CHOICE);
        desk.take(filled, 0, 0, 2);
        desk.take(filled, 0, 1, 2);
        int empty = desk.add(0, CHOICE);
        Due.is("an empty CHOICE behind a SWITCH", desk.kind(empty), NEVER);
        Due.is("it is no SWITCH", desk.switches(empty), -1);
        Due.is("it has no ARMS", desk.arms(empty, -1), 0);
        Due.is("no PARTS of an ARM", desk.arms(empty, 0), 0);
        desk.clear();
        Due.is("an empty CHOICE after clear", desk.kind(desk.add(0, CHOICE)), NEVER);
    }

    private static void testWithTooFew() {
        for (int a = 0; a < 5; a++) {
            Due.is("TEST of one, " + a, of(TEST, a), NEVER);
            for (int b = 0; b < 5; b++) {
                Due.is("TEST of two, " + a + " " + b, of(TEST, a, b), NEVER);
            }
        }
        CountDesk desk = new CountDesk();
        int test = desk.add(0, TEST);
        int[] want = {NEVER, NEVER, DET};
        for (int parts = 0; parts < 3; parts++) {
            desk.goal(test, DET);
            Due.is("TEST growing", desk.kind(test), want[parts]);
            Due.is("NODE 0 around it", desk.kind(0), want[parts]);
        }
        desk.goal(test, NEVER);
        Due.is("a fourth is refused", desk.kind(test), DET);
    }

    private static void testWithThree() {
        Due.is("A can't fail: C does not count", of(TEST, DET, DET, NEVER), DET);
        Due.is("A can't fail, MANY", of(TEST, MULTI, DET, NEVER), MULTI);
        Due.is("A can't fail, B can", of(TEST, MULTI, SEMIDET, DET), NONDET);
        Due.is("A has MOST 0: B does not count", of(TEST, NEVER, MULTI, DET), DET);
        Due.is("B can fail", of(TEST, SEMIDET, SEMIDET, DET), SEMIDET);
        Due.is("C can fail", of(TEST, SEMIDET, DET, SEMIDET), SEMIDET);
        Due.is("A's failing does not count", of(TEST, SEMIDET, DET, DET), DET);
        Due.is("A has MANY", of(TEST, NONDET, DET, DET), MULTI);
        Due.is("C has MANY", of(TEST, SEMIDET, DET, MULTI), MULTI);
    }

    private static void choiceOfOne() {
        for (int kind = 0; kind < 5; kind++) {
            Due.is("CHOICE of one, " + kind, of(CHOICE, kind), kind);
        }
        int[] alls = {0, 1, 2, 100};
        for (int all : alls) {
            CountDesk desk = new CountDesk();
            int choice = desk.add(0, CHOICE);
            desk.take(choice, 0, 0, all);
            Due.is("one TAKE is no SWITCH, ALL " + all, desk.switches(choice), -1);
            Due.is("no ARMS, ALL " + all, desk.arms(choice, -1), 0);
            Due.is("no PARTS of an ARM, ALL " + all, desk.arms(choice, 0), 0);
            Due.is("its KIND, ALL " + all, desk.kind(choice), all == 1 ? DET : SEMIDET);
        }
    }

    private static void choiceOfTwo() {
        Due.is("two DET", of(CHOICE, DET, DET), MULTI);
        Due.is("two SEMIDET", of(CHOICE, SEMIDET, SEMIDET), NONDET);
        Due.is("one of them can't fail", of(CHOICE, SEMIDET, DET), MULTI);
        CountDesk desk = new CountDesk();
        int choice = desk.add(0, CHOICE);
        desk.take(choice, 0, 0, 2);
        desk.take(choice, 0, 1, 2);
        Due.is("two TAKES are a SWITCH", desk.switches(choice), 0);
        Due.is("its KIND", desk.kind(choice), DET);
        desk.take(choice, 0, 1, 2);
        Due.is("three TAKES are a SWITCH", desk.switches(choice), 0);
        Due.is("its KIND, one twice", desk.kind(choice), MULTI);
    }

    private static void neverInRow() {
        for (int kind = 0; kind < 5; kind++) {
            Due.is("ROW of NEVER and " + kind, of(ROW, NEVER, kind), NEVER);
            Due.is("ROW of " + kind + " and NEVER", of(ROW, kind, NEVER), NEVER);
        }
    }

    private static void neverInNot() {
        int[] want = {NEVER, SEMIDET, NEVER, SEMIDET, DET};
        for (int kind = 0; kind < 5; kind++) {
            Due.is("NOT of " + kind, of(NOT, kind), want[kind]);
        }
    }

    private static void neverInTest() {
        Due.is("A can't fail, B NEVER", of(TEST, DET, NEVER, DET), NEVER);
        Due.is("A MULTI, B NEVER", of(TEST, MULTI, NEVER, DET), NEVER);
        Due.is("B NEVER: the greater is that of C", of(TEST, SEMIDET, NEVER, DET), SEMIDET);
        Due.is("A MANY, B NEVER", of(TEST, NONDET, NEVER, DET), SEMIDET);
        Due.is("C NEVER", of(TEST, SEMIDET, DET, NEVER), SEMIDET);
        Due.is("B and C NEVER", of(TEST, SEMIDET, NEVER, NEVER), NEVER);
        Due.is("A and C NEVER", of(TEST, NEVER, DET, NEVER), NEVER);
    }

    private static void neverInChoice() {
        Due.is("each NEVER", of(CHOICE, NEVER, NEVER, NEVER), NEVER);
        Due.is("one DET, the others NEVER", of(CHOICE, NEVER, DET, NEVER), DET);
        Due.is("one SEMIDET, the others NEVER", of(CHOICE, NEVER, NEVER, SEMIDET), SEMIDET);
        Due.is("one MULTI, the others NEVER", of(CHOICE, MULTI, NEVER, NEVER), MULTI);
        Due.is("one NONDET, the others NEVER", of(CHOICE, NEVER, NONDET, NEVER), NONDET);
        Due.is("two of MOST 1, one NEVER", of(CHOICE, DET, NEVER, SEMIDET), MULTI);
    }

    /** A CHOICE of a ROW for each pair: a TAKE of 0 with this TAG, then a GOAL of this KIND. */
    private static int switchOf(int all, int... tagsAndKinds) {
        CountDesk desk = new CountDesk();
        int choice = desk.add(0, CHOICE);
        for (int i = 0; i < tagsAndKinds.length; i += 2) {
            int row = desk.add(choice, ROW);
            desk.take(row, 0, tagsAndKinds[i], all);
            desk.goal(row, tagsAndKinds[i + 1]);
        }
        Due.is("it is a SWITCH", desk.switches(choice), 0);
        return desk.kind(choice);
    }

    private static void endlessType() {
        CountDesk desk = new CountDesk();
        int choice = desk.add(0, CHOICE);
        int take = desk.take(choice, 0, 0, 0);
        Due.is("a TAKE, ALL 0", desk.kind(take), SEMIDET);
        for (int tag = 1; tag < 100; tag++) {
            desk.take(choice, 0, tag, 0);
            Due.is("ALL 0, ARMS " + (tag + 1), desk.kind(choice), SEMIDET);
            Due.is("so many", desk.arms(choice, -1), tag + 1);
        }
        Due.is("ALL 0, one ARM", switchOf(0, 7, DET, 7, NEVER), SEMIDET);
        Due.is("ALL 0, MANY", switchOf(0, 0, DET, 1, MULTI), NONDET);
        Due.is("ALL 0, NEVER", switchOf(0, 0, NEVER, 1, NEVER), NEVER);
    }

    private static void oneConstructor() {
        CountDesk desk = new CountDesk();
        Due.is("a TAKE, ALL 1", desk.kind(desk.take(0, 0, 0, 1)), DET);
        Due.is("a TAKE, ALL 2", desk.kind(desk.take(0, 0, 0, 2)), SEMIDET);
        Due.is("a TAKE, ALL 100", desk.kind(desk.take(0, 0, 0, 100)), SEMIDET);
        Due.is("ALL 1, two PARTS in the one ARM", switchOf(1, 0, DET, 0, DET), MULTI);
        Due.is("ALL 1, one of them NEVER", switchOf(1, 0, NEVER, 0, DET), DET);
        Due.is("ALL 1, both can fail", switchOf(1, 0, SEMIDET, 0, SEMIDET), NONDET);
        Due.is("ALL 1, one can fail", switchOf(1, 0, SEMIDET, 0, DET), MULTI);
    }

    private static void lessArmsThanAll() {
        Due.is("two of two", switchOf(2, 0, DET, 1, DET), DET);
        Due.is("two of three", switchOf(3, 0, DET, 1, DET), SEMIDET);
        Due.is("one of two", switchOf(2, 1, DET, 1, NEVER), SEMIDET);
        Due.is("three PARTS, two ARMS of three", switchOf(3, 0, DET, 1, DET, 0, NEVER), SEMIDET);
        Due.is("three of three", switchOf(3, 2, DET, 0, DET, 1, DET), DET);
        CountDesk desk = new CountDesk();
        int choice = desk.add(0, CHOICE);
        for (int tag = 99; tag >= 0; tag--) {
            desk.take(choice, 59, tag, 100);
            Due.is("down to " + tag + " of 100", desk.kind(choice), tag == 0 ? DET : SEMIDET);
        }
    }

    private static void neverInSwitch() {
        Due.is("each ARM NEVER", switchOf(2, 0, NEVER, 1, NEVER), NEVER);
        Due.is("each ARM NEVER, less ARMS", switchOf(3, 0, NEVER, 1, NEVER), NEVER);
        Due.is("one ARM NEVER", switchOf(2, 0, NEVER, 1, DET), SEMIDET);
        Due.is("one ARM NEVER, one MULTI", switchOf(2, 0, MULTI, 1, NEVER), NONDET);
        Due.is("an ARM of two NEVER", switchOf(2, 0, NEVER, 0, NEVER, 1, DET), SEMIDET);
    }

    /** The first and the last variable work as all others do. */
    private static void variables() {
        for (int x = 0; x < 60; x++) {
            CountDesk desk = new CountDesk();
            int choice = desk.add(0, CHOICE);
            desk.take(choice, x, 0, 2);
            int row = desk.add(choice, ROW);
            desk.put(59 - x);
            desk.goal(row, DET);
            desk.take(row, x, 1, 2);
            Due.is("SWITCH on " + x, desk.switches(choice), x);
            Due.is("its KIND", desk.kind(choice), DET);
            Due.is("variable of the TAKE", desk.node(2, 2), x);
        }
    }

    /** What lies 20 deep still counts for NODE 0. */
    private static void twentyDeep() {
        for (int kind = 0; kind < 5; kind++) {
            for (int sort = ROW; sort <= CHOICE; sort++) {
                CountDesk desk = new CountDesk();
                for (int depth = 1; depth < 20; depth++) {
                    desk.add(depth - 1, sort);
                }
                Due.is("an ATOM 20 deep", desk.goal(19, kind), 20);
                Due.is("kind(0), sort " + sort, desk.kind(0), kind);
            }
        }
        CountDesk desk = new CountDesk();
        for (int depth = 1; depth < 20; depth++) {
            desk.add(depth - 1, NOT);
        }
        desk.goal(19, SEMIDET);
        Due.is("NOT of NOT, 19 times", desk.kind(0), SEMIDET);
    }
}
