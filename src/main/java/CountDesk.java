/**
 * How often goals of a logic language can succeed: from what is told of the least ones, for rows,
 * choices, negations and tests; choices whose parts take one variable apart by different
 * constructors are switches.
 *
 * <p>The KIND of each NODE is kept up to date: a new NODE can change the KINDS of those around it
 * alone, so each call that puts one in goes up from it to NODE 0.
 */
public final class CountDesk {
    public static final int NONE = -1;

    private static final int ROW = 0;
    private static final int CHOICE = 1;
    private static final int NOT = 2;
    private static final int TEST = 3;
    private static final int GOAL = 4;
    private static final int TAKE = 5;

    private static final int DET = 0;
    private static final int SEMIDET = 1;
    private static final int MULTI = 2;
    private static final int NONDET = 3;
    private static final int NEVER = 4;

    private static final int MANY = 2;

    private static final int NODE_LIMIT = 250;
    private static final int DEPTH_LIMIT = 20;
    private static final int MAKES_LIMIT = 7;
    private static final int VARIABLES = 60;
    private static final int TAGS = 100;
    private static final int ALL_LIMIT = 100;

    private static final int FIRST_PART = 5;

    private final Node[] nodes;
    private final Splitter splitter;
    private int nodeCount;
    private long waiting;
    private int waitingCount;

    public CountDesk() {
        nodes = new Node[NODE_LIMIT];
        splitter = new Splitter();
        startOver();
    }

    public void clear() {
        startOver();
    }

    public boolean put(int x) {
        if (waitingCount >= MAKES_LIMIT || !isVariable(x)) {
            return false;
        }
        waiting |= Node.bit(x);
        waitingCount++;
        return true;
    }

    public int add(int parent, int sort) {
        emptyWaiting();
        Node above = openParent(parent);
        if (above == null || sort < ROW || sort > TEST) {
            return NONE;
        }
        return hang(above, new Node(sort, 0L));
    }

    public int goal(int parent, int kind) {
        long makes = emptyWaiting();
        Node above = openParent(parent);
        if (above == null || kind < DET || kind > NEVER) {
            return NONE;
        }
        Node fresh = new Node(GOAL, makes);
        fresh.kind = kind;
        return hang(above, fresh);
    }

    public int take(int parent, int x, int tag, int all) {
        long makes = emptyWaiting();
        Node above = openParent(parent);
        if (above == null || !isVariable(x) || !isConstructor(tag, all)) {
            return NONE;
        }
        Node fresh = new Node(TAKE, makes);
        fresh.kind = all == 1 ? DET : SEMIDET;
        fresh.variable = x;
        fresh.tag = tag;
        fresh.all = all;
        return hang(above, fresh);
    }

    public int kind(int node) {
        Node at = find(node);
        return at == null ? NONE : at.kind;
    }

    public int switches(int node) {
        Node at = find(node);
        return at == null || at.sort != CHOICE ? NONE : splitter.variableOf(at);
    }

    public int arms(int node, int tag) {
        Node at = find(node);
        return at == null || at.sort != CHOICE ? 0 : splitter.armsOf(at, tag);
    }

    public int fits(int kind) {
        if (kind < DET || kind > NONDET) {
            return 3;
        }
        int own = kind(0);
        if (Kinds.canFail(own) && !Kinds.canFail(kind)) {
            return 1;
        }
        return Kinds.most(own) == MANY && Kinds.most(kind) == 1 ? 2 : 0;
    }

    public int node(int node, int what) {
        Node at = find(node);
        if (at == null || what < 0) {
            return NONE;
        }
        switch (what) {
            case 0:
                return at.sort;
            case 1:
                return at.partCount;
            case 2:
                return at.sort == GOAL ? at.kind : at.variable;
            case 3:
                return at.tag;
            case 4:
                return at.all;
            default:
                return at.partNumber(what - FIRST_PART);
        }
    }

    private void startOver() {
        nodes[0] = new Node(ROW, 0L);
        nodeCount = 1;
        emptyWaiting();
    }

    /** What the next ATOM would MAKE; each call that asks for it uses it up, also when it refuses. */
    private long emptyWaiting() {
        long makes = waiting;
        waiting = 0L;
        waitingCount = 0;
        return makes;
    }

    private static boolean isVariable(int x) {
        return x >= 0 && x < VARIABLES;
    }

    private static boolean isConstructor(int tag, int all) {
        if (all < 0 || all > ALL_LIMIT || tag < 0 || tag >= TAGS) {
            return false;
        }
        return all == 0 || tag < all;
    }

    private Node find(int number) {
        if (number < 0 || number >= nodeCount || number >= nodes.length) {
            return null;
        }
        return nodes[number];
    }

    /** The NODE of that number, or null if no further PART can be put into it. */
    private Node openParent(int number) {
        Node above = find(number);
        if (above == null || nodeCount >= NODE_LIMIT || !above.hasRoom()) {
            return null;
        }
        return above;
    }

    private int hang(Node above, Node fresh) {
        if (nodeCount >= nodes.length) {
            return NONE;
        }
        fresh.number = nodeCount;
        nodes[nodeCount] = fresh;
        nodeCount++;
        above.append(fresh);
        for (Node at = fresh; at != null; at = at.parent) {
            at.kind = at.sort == CHOICE ? splitter.kindOf(at) : at.kindFromParts();
        }
        return fresh.number;
    }

    /** What KINDS say of failing and of the MOST successes. */
    private static final class Kinds {
        static boolean canFail(int kind) {
            return kind == SEMIDET || kind == NONDET || kind == NEVER;
        }

        static int most(int kind) {
            if (kind == NEVER) {
                return 0;
            }
            return kind == MULTI || kind == NONDET ? MANY : 1;
        }

        static int of(boolean canFail, int most) {
            if (most == 0) {
                return NEVER;
            }
            if (most == 1) {
                return canFail ? SEMIDET : DET;
            }
            return canFail ? NONDET : MULTI;
        }

        /** MOSTS multiply in a ROW and add up in a CHOICE; what is more than 1 is MANY. */
        static int capped(int most) {
            return most > 1 ? MANY : most;
        }
    }

    /** One NODE of the tree; its PARTS are a chain from first over next. */
    private static final class Node {
        final int sort;
        final long makes;
        int number;
        int depth;
        int kind;
        int variable = NONE;
        int tag = NONE;
        int all = NONE;
        int partCount;
        Node parent;
        Node first;
        Node last;
        Node next;
        /** The next PART of the same ARM, and the variables TAKEN: the Splitter's notes. */
        Node beside;
        long taken;

        Node(int sort, long makes) {
            this.sort = sort;
            this.makes = makes;
        }

        static long bit(int x) {
            return 1L << x;
        }

        static boolean has(long variables, int x) {
            return (variables >>> x & 1L) != 0L;
        }

        boolean hasRoom() {
            if (depth >= DEPTH_LIMIT) {
                return false;
            }
            switch (sort) {
                case ROW:
                case CHOICE:
                    return true;
                case NOT:
                    return partCount < 1;
                case TEST:
                    return partCount < 3;
                default:
                    return false;
            }
        }

        void append(Node part) {
            part.parent = this;
            part.depth = depth + 1;
            if (last == null) {
                first = part;
            } else {
                last.next = part;
            }
            last = part;
            partCount++;
        }

        int partNumber(int k) {
            int left = k;
            for (Node part = first; part != null; part = part.next) {
                if (left == 0) {
                    return part.number;
                }
                left--;
            }
            return NONE;
        }

        /** The KIND of any NODE but a CHOICE, by itself. */
        int kindFromParts() {
            switch (sort) {
                case ROW:
                    return rowKind(0L);
                case NOT:
                    return notKind();
                case TEST:
                    return testKind();
                default:
                    return kind;
            }
        }

        /** The KIND of a ROW; the first TAKE of each of the known variables counts as DET. */
        private int rowKind(long known) {
            boolean canFail = false;
            int most = 1;
            long left = known;
            for (Node part = first; part != null; part = part.next) {
                if (part.sort == TAKE && has(left, part.variable)) {
                    left &= ~bit(part.variable);
                } else {
                    canFail |= Kinds.canFail(part.kind);
                    most = Kinds.capped(most * Kinds.most(part.kind));
                }
            }
            return Kinds.of(canFail, most);
        }

        private int notKind() {
            if (first == null) {
                return NEVER;
            }
            if (Kinds.most(first.kind) == 0) {
                return DET;
            }
            return Kinds.canFail(first.kind) ? SEMIDET : NEVER;
        }

        private int testKind() {
            Node second = first == null ? null : first.next;
            Node third = second == null ? null : second.next;
            if (first == null || second == null || third == null) {
                return NEVER;
            }
            int mostOfRow = Kinds.capped(Kinds.most(first.kind) * Kinds.most(second.kind));
            boolean secondCanFail = Kinds.canFail(second.kind);
            if (!Kinds.canFail(first.kind)) {
                return Kinds.of(secondCanFail, mostOfRow);
            }
            if (Kinds.most(first.kind) == 0) {
                return third.kind;
            }
            int most = Math.max(Kinds.most(third.kind), mostOfRow);
            return Kinds.of(secondCanFail || Kinds.canFail(third.kind), most);
        }

        /** The KIND of a PART of a SWITCH on the known variables (none: its KIND by itself). */
        int kindKnowing(long known) {
            if (sort == TAKE && has(known, variable)) {
                return DET;
            }
            return sort == ROW ? rowKind(known) : kind;
        }

        private boolean staysInHead() {
            return sort == TAKE || sort == GOAL && kind == DET;
        }

        /** The variables TAKEN by this PART of a CHOICE. */
        long takenInHead() {
            if (sort == TAKE) {
                return bit(variable);
            }
            if (sort != ROW) {
                return 0L;
            }
            long found = 0L;
            long made = 0L;
            for (Node part = first; part != null && part.staysInHead(); part = part.next) {
                if (part.sort == TAKE && !has(made, part.variable)) {
                    found |= bit(part.variable);
                }
                made |= part.makes;
            }
            return found;
        }

        /** The TAKE that tells TAG and ALL of x, which must be TAKEN by this PART. */
        Node takeOf(int x) {
            if (sort == TAKE) {
                return this;
            }
            for (Node part = first; part != null; part = part.next) {
                if (part.sort == TAKE && part.variable == x) {
                    return part;
                }
            }
            return null;
        }
    }

    /** Some PARTS of a CHOICE, which count as a CHOICE of these: all of them, or an ARM of others. */
    private static final class Arm {
        Arm whole;
        int tag;
        long known;
        Node first;
        Node last;
        int size;
        int variable;
        int all;
        int armCount;
        boolean armCanFail;
        int armMost;

        void open(Arm from, int itsTag) {
            whole = from;
            tag = itsTag;
            known = from == null ? 0L : from.known | Node.bit(from.variable);
            first = null;
            last = null;
            size = 0;
            variable = NONE;
            all = NONE;
            armCount = 0;
            armCanFail = false;
            armMost = 0;
        }

        void enlist(Node part) {
            part.beside = null;
            if (last == null) {
                first = part;
            } else {
                last.beside = part;
            }
            last = part;
            size++;
        }

        /** Sets the variable on which these PARTS are a SWITCH, and its ALL, if there is one. */
        void findSwitch() {
            if (size < 2) {
                return;
            }
            long taken = ~known;
            for (Node part = first; part != null; part = part.beside) {
                taken &= part.taken;
            }
            for (int x = 0; x < VARIABLES && variable == NONE; x++) {
                int common = Node.has(taken, x) ? commonAll(x) : NONE;
                if (common != NONE) {
                    variable = x;
                    all = common;
                }
            }
        }

        /** The ALL that every PART tells of x, which is TAKEN by each; NONE if they differ. */
        private int commonAll(int x) {
            int common = NONE;
            for (Node part = first; part != null; part = part.beside) {
                Node told = part.takeOf(x);
                if (told == null || common != NONE && told.all != common) {
                    return NONE;
                }
                common = told.all;
            }
            return common;
        }

        void hear(int kindOfArm) {
            armCanFail |= Kinds.canFail(kindOfArm);
            armMost = Math.max(armMost, Kinds.most(kindOfArm));
        }

        /** The KIND of a CHOICE of these PARTS; of a SWITCH when all its ARMS have been heard. */
        int kindTogether() {
            if (variable != NONE) {
                return Kinds.of(all == 0 || armCanFail || armCount < all, armMost);
            }
            boolean canFail = true;
            int most = 0;
            for (Node part = first; part != null; part = part.beside) {
                int kind = part.kindKnowing(known);
                canFail &= Kinds.canFail(kind);
                most = Kinds.capped(most + Kinds.most(kind));
            }
            return Kinds.of(canFail, most);
        }
    }

    /**
     * Takes CHOICES apart into ARMS, and these into theirs. The ARMS stand in one row, each behind
     * its whole, so that no recursion is needed: SWITCHES can lie 60 deep in one CHOICE.
     */
    private static final class Splitter {
        private final Arm top = new Arm();
        /** Each PART brings a TAKE of its own to each ARM that it is in: TAKES bound the ARMS. */
        private final Arm[] opened = new Arm[NODE_LIMIT];
        private int openedCount;

        int kindOf(Node choice) {
            gather(choice);
            split(top);
            for (int i = 0; i < openedCount && i < opened.length; i++) {
                Arm arm = openedAt(i);
                if (arm != null) {
                    split(arm);
                }
            }
            // An ARM's own ARMS stand behind it, so they have all been heard when its turn comes.
            for (int i = openedCount - 1; i >= 0; i--) {
                Arm arm = openedAt(i);
                if (arm != null && arm.whole != null) {
                    arm.whole.hear(arm.kindTogether());
                }
            }
            return top.kindTogether();
        }

        int variableOf(Node choice) {
            gather(choice);
            top.findSwitch();
            return top.variable;
        }

        int armsOf(Node choice, int tag) {
            gather(choice);
            split(top);
            if (tag == NONE) {
                return openedCount;
            }
            Arm arm = openedFor(tag, 0);
            return arm == null ? 0 : arm.size;
        }

        private void gather(Node choice) {
            openedCount = 0;
            top.open(null, NONE);
            for (Node part = choice.first; part != null; part = part.next) {
                part.taken = part.takenInHead();
                top.enlist(part);
            }
        }

        private void split(Arm whole) {
            whole.findSwitch();
            if (whole.variable == NONE) {
                return;
            }
            int from = openedCount;
            Node rest = null;
            for (Node part = whole.first; part != null; part = rest) {
                // An ARM uses the same link for its own chain.
                rest = part.beside;
                Node told = part.takeOf(whole.variable);
                Arm arm = told == null ? null : armFor(told.tag, from, whole);
                if (arm != null) {
                    arm.enlist(part);
                }
            }
            whole.armCount = openedCount - from;
        }

        private Arm armFor(int tag, int from, Arm whole) {
            Arm arm = openedFor(tag, from);
            if (arm != null || openedCount >= opened.length) {
                return arm;
            }
            if (opened[openedCount] == null) {
                opened[openedCount] = new Arm();
            }
            arm = opened[openedCount];
            openedCount++;
            arm.open(whole, tag);
            return arm;
        }

        private Arm openedFor(int tag, int from) {
            for (int i = from; i < openedCount; i++) {
                Arm arm = openedAt(i);
                if (arm != null && arm.tag == tag) {
                    return arm;
                }
            }
            return null;
        }

        private Arm openedAt(int i) {
            return i < 0 || i >= openedCount || i >= opened.length ? null : opened[i];
        }
    }
}
