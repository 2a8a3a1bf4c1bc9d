/**
 * Statements as trees: which can be reached and can end normally by the told rules, what walks
 * through them really come to, and the faults and notes that follow from both.
 */
public final class ReachFlow {
    public static final int NONE = -1, BAD = -2, FULL = -3, NO = -4;

    private static final int EMPTY = 0, ACT = 1, THROW = 2, RETURN = 3, IF = 4, WHILE = 5, DO = 6,
            FOR = 7, EACH = 8, LOCK = 9, BREAK = 10, CONTINUE = 11, LABEL = 12, BLOCK = 13,
            SWITCH = 14, RULES = 15, TRY = 16;
    private static final int FALSE = 0, TRUE = 1, OPEN = 2, NO_TEST = 3;
    private static final int UNMARKED = 0, CASE = 1, DEFAULT = 2;
    private static final int NOT_REACHED = 1, NO_TARGET = 2, CAUGHT_BEFORE = 3, CAUGHT_NEVER = 4,
            NAME_TWICE = 5, WRONG_RETURN = 6, LACKS_VALUE = 7, NEVER_DONE = 8, UNDECIDED = 9;
    // As bits: a KIND that is BELOW one of these is UNCHECKED.
    private static final int UNCHECKED = 1 << 2 | 1 << 3;
    private static final int MOST_NODES = 60, MOST_KINDS = 12, MOST_NAMES = 6;
    // Only a jump or a LABEL can have two FAULTS, and none has three.
    private static final int MOST_FAULTS = 2 * MOST_NODES;

    private final Kinds kinds;
    private final Tree tree;
    private final Row row;
    private final Look look;

    public ReachFlow() {
        Kinds newKinds = new Kinds();
        Tree newTree = new Tree();
        kinds = newKinds;
        tree = newTree;
        row = new Row();
        look = new Look(newTree, newKinds);
    }

    public int clear() {
        int nodes = tree.size;
        kinds.startAgain();
        tree.startAgain();
        row.close();
        look.startAgain();
        return nodes;
    }

    public int exception(int above) {
        if (!kinds.has(above)) {
            return BAD;
        }
        return kinds.count >= MOST_KINDS ? FULL : kinds.addBelow(above);
    }

    public int node(int sort, int test, int a, int b) {
        if (!fitsNode(sort, test, a, b)) {
            return BAD;
        }
        if (tree.isFull()) {
            return FULL;
        }
        if (sort < IF) {
            return tree.add(sort, sort == EMPTY ? 0 : a);
        }
        int made = tree.add(sort, test);
        tree.adopt(made, a);
        if (b != NONE) {
            tree.adopt(made, b);
        }
        return made;
    }

    private boolean fitsNode(int sort, int test, int a, int b) {
        if (sort == IF) {
            return isTest(test, OPEN) && tree.isFree(a) && (b == NONE || tree.isFree(b) && a != b);
        }
        if (b != NONE) {
            return false;
        }
        switch (sort) {
            case EMPTY:
                return test == 0 && a == NONE;
            case ACT:
                return test == 0 && (a == NONE || kinds.has(a));
            case THROW:
                return test == 0 && kinds.has(a);
            case RETURN:
                return test == 0 && (a == 0 || a == 1);
            case WHILE:
            case DO:
                return isTest(test, OPEN) && tree.isFree(a);
            case FOR:
                return isTest(test, NO_TEST) && tree.isFree(a);
            case EACH:
                return test == 0 && tree.isFree(a);
            case LOCK:
                return test == 0 && tree.isFreeBlock(a);
            default:
                return false;
        }
    }

    private static boolean isTest(int test, int last) {
        return test >= FALSE && test <= last;
    }

    public int jump(int kind, int name) {
        if (kind < 0 || kind > 1 || name != NONE && !isName(name)) {
            return BAD;
        }
        return tree.isFull() ? FULL : tree.add(BREAK + kind, name);
    }

    public int label(int name, int part) {
        if (!isName(name) || !tree.isFree(part)) {
            return BAD;
        }
        if (tree.isFull()) {
            return FULL;
        }
        int made = tree.add(LABEL, name);
        tree.adopt(made, part);
        return made;
    }

    private static boolean isName(int name) {
        return name >= 0 && name < MOST_NAMES;
    }

    public int row(int kind) {
        if (kind < 0 || kind > TRY - BLOCK) {
            return BAD;
        }
        if (row.isOpen()) {
            return NO;
        }
        row.start(BLOCK + kind);
        return kind;
    }

    public int put(int part, int mark) {
        if (!row.isOpen()) {
            return NO;
        }
        if (!fitsRow(part, mark)) {
            return BAD;
        }
        tree.take(part, row.sort == BLOCK ? NONE : mark);
        row.add(part, mark);
        return row.size;
    }

    private boolean fitsRow(int part, int mark) {
        if (!tree.isFree(part)) {
            return false;
        }
        switch (row.sort) {
            case BLOCK:
                return mark == UNMARKED;
            case SWITCH:
                return row.fitsMark(mark) && (mark != UNMARKED || row.size > 0);
            case RULES:
                return row.fitsMark(mark) && mark != UNMARKED && fitsRules(tree.sort[part]);
            default:
                return tree.isFreeBlock(part) && (row.size == 0 ? mark == NONE : kinds.has(mark));
        }
    }

    private static boolean fitsRules(int sort) {
        return sort == BLOCK || sort == ACT || sort == THROW;
    }

    public int end(int mark) {
        if (!row.isOpen()) {
            return NO;
        }
        if (!fitsEnd(mark)) {
            return BAD;
        }
        if (tree.isFull()) {
            return FULL;
        }
        int made = tree.add(row.sort, 0);
        for (int i = 0; i < row.size; i++) {
            tree.adopt(made, row.parts[i]);
        }
        tree.closeRow(made, mark, row.hasDefault);
        row.close();
        return made;
    }

    private boolean fitsEnd(int mark) {
        if (row.sort == SWITCH) {
            return row.fitsMark(mark);
        }
        if (row.sort == TRY) {
            return row.size > 0 && (mark == NONE ? row.size > 1 : tree.isFreeBlock(mark));
        }
        return mark == UNMARKED;
    }

    public int drop() {
        if (!row.isOpen()) {
            return NO;
        }
        int parts = row.size;
        for (int i = 0; i < parts; i++) {
            tree.release(row.parts[i]);
        }
        row.close();
        return parts;
    }

    public int told(int node, int what) {
        if (!tree.has(node)) {
            return BAD;
        }
        switch (what) {
            case 0:
                return tree.sort[node];
            case 1:
                return tree.value[node];
            case 2:
                return tree.count[node];
            case 3:
                return tree.parent[node];
            case 4:
                return tree.mark[node];
            default:
                return BAD;
        }
    }

    public int part(int node, int i) {
        if (!tree.has(node) || i < 0 || i >= tree.count[node]) {
            return BAD;
        }
        return tree.kid(node, i);
    }

    public int of(int what) {
        switch (what) {
            case 0:
                return tree.size;
            case 1:
                return kinds.count;
            case 2:
                return row.isOpen() ? row.size : NONE;
            case 3:
                return look.root;
            default:
                return BAD;
        }
    }

    public int check(int root) {
        if (!tree.has(root)) {
            return BAD;
        }
        look.lookAt(root);
        return look.faultCount;
    }

    public int fault(int i, int what) {
        if (i < 0 || i >= look.faultCount || what < 0 || what > 1) {
            return BAD;
        }
        return what == 0 ? look.faultSort[i] : look.faultNode[i];
    }

    public int notes() {
        return look.noteCount;
    }

    public int note(int i) {
        return i < 0 || i >= look.noteCount ? BAD : look.noteNode[i];
    }

    public boolean reached(int node) {
        return tree.has(node) && look.rules.meets(node);
    }

    public boolean completes(int node) {
        return tree.has(node) && look.rules.meets(node) && look.rules.endsNormally(node);
    }

    public int can(int node, int kind) {
        if (!tree.has(node) || !kinds.has(kind)) {
            return BAD;
        }
        return look.rules.meets(node) && isIn(look.rules.thrown[node], kind) ? 1 : 0;
    }

    public int target(int node) {
        return tree.has(node) ? look.targets[node] : BAD;
    }

    public boolean walked(int node) {
        return tree.has(node) && look.walks.meets(node);
    }

    public int ends(int node, int how, int which) {
        if (!tree.has(node) || !fitsWhich(how, which)) {
            return BAD;
        }
        return look.walks.meets(node) && look.walks.endsBy(node, how, which) ? 1 : 0;
    }

    private boolean fitsWhich(int how, int which) {
        switch (how) {
            case 0:
            case 1:
                return which == 0;
            case 2:
            case 3:
                return tree.has(which);
            case 4:
                return kinds.has(which);
            default:
                return false;
        }
    }

    public int member(int root, int result) {
        if (!tree.has(root) || result < 0 || result > 3) {
            return BAD;
        }
        look.lookAt(root);
        return look.faultCount > 0 ? look.faultSort[0] : judge(root, result);
    }

    private int judge(int root, int result) {
        boolean valued = look.hasReturn(1);
        boolean plain = look.hasReturn(0);
        boolean completes = look.rules.endsNormally(root);
        switch (result) {
            case 0:
                return valued ? WRONG_RETURN : 0;
            case 1:
                return plain ? WRONG_RETURN : completes ? LACKS_VALUE : 0;
            case 2:
                return valued || plain ? WRONG_RETURN : completes ? 0 : NEVER_DONE;
            default:
                return valued && (plain || completes) ? UNDECIDED : 0;
        }
    }

    private static boolean isIn(long bits, int n) {
        return (bits >> n & 1L) != 0;
    }

    private static boolean isLoop(int sort) {
        return sort >= WHILE && sort <= EACH;
    }

    /** The KINDS of exceptions, with the KINDS above and below each as bits. */
    private static final class Kinds {
        int count;
        // Bit k of below[c] and bit c of over[k]: k is BELOW c.
        final int[] below = new int[MOST_KINDS];
        final int[] over = new int[MOST_KINDS];

        Kinds() {
            startAgain();
        }

        void startAgain() {
            below[0] = 1;
            over[0] = 1;
            count = 1;
            addBelow(0);
            addBelow(1);
            addBelow(0);
        }

        boolean has(int kind) {
            return kind >= 0 && kind < count;
        }

        int addBelow(int above) {
            int made = count;
            count++;
            below[made] = 0;
            over[made] = over[above] | 1 << made;
            for (int c = 0; c <= made; c++) {
                if (isIn(over[made], c)) {
                    below[c] |= 1 << made;
                }
            }
            return made;
        }

        boolean needsNoThrower(int kind) {
            return kind <= 1 || (over[kind] & UNCHECKED) != 0;
        }
    }

    /** The NODES; a part's number is always below that of what it is part of. */
    private static final class Tree {
        int size;
        private int kidCount;
        // The NODES that are not FREE: parts, and what stands in the row that is being made.
        private long taken;
        private long defaults;
        final int[] sort = new int[MOST_NODES];
        final int[] value = new int[MOST_NODES];
        final int[] mark = new int[MOST_NODES];
        final int[] parent = new int[MOST_NODES];
        final int[] count = new int[MOST_NODES];
        // A SWITCH'S mark at its end; a TRY'S ENDING or NONE.
        final int[] tail = new int[MOST_NODES];
        final long[] partBits = new long[MOST_NODES];
        // A NODE is part of one at most, so all parts of all NODES fit into one list.
        private final int[] kids = new int[MOST_NODES];
        private final int[] first = new int[MOST_NODES];
        private final int[] spot = new int[MOST_NODES];

        void startAgain() {
            size = 0;
            kidCount = 0;
            taken = 0;
            defaults = 0;
        }

        boolean has(int n) {
            return n >= 0 && n < size;
        }

        boolean isFull() {
            return size >= MOST_NODES;
        }

        boolean isFree(int n) {
            return has(n) && !isIn(taken, n);
        }

        boolean isFreeBlock(int n) {
            return isFree(n) && sort[n] == BLOCK;
        }

        int add(int newSort, int newValue) {
            int made = size;
            size++;
            sort[made] = newSort;
            value[made] = newValue;
            mark[made] = NONE;
            parent[made] = NONE;
            count[made] = 0;
            tail[made] = NONE;
            partBits[made] = 0;
            first[made] = kidCount;
            return made;
        }

        void take(int n, int newMark) {
            taken |= 1L << n;
            mark[n] = newMark;
        }

        void release(int n) {
            taken &= ~(1L << n);
            mark[n] = NONE;
        }

        void adopt(int whole, int n) {
            taken |= 1L << n;
            parent[n] = whole;
            spot[n] = kidCount;
            kids[kidCount] = n;
            kidCount++;
            count[whole]++;
            partBits[whole] |= 1L << n;
        }

        void closeRow(int whole, int endMark, boolean hasDefault) {
            tail[whole] = endMark;
            if (sort[whole] == TRY) {
                if (endMark != NONE) {
                    adopt(whole, endMark);
                }
            } else if (hasDefault || endMark == DEFAULT) {
                defaults |= 1L << whole;
            }
        }

        int kid(int whole, int i) {
            return kids[first[whole] + i];
        }

        /** The part right before one, in what both are part of; NONE before the first. */
        int kidBefore(int n) {
            return spot[n] == first[parent[n]] ? NONE : kids[spot[n] - 1];
        }

        boolean hasDefault(int n) {
            return isIn(defaults, n);
        }

        int testOf(int n) {
            return value[n] == NO_TEST ? TRUE : value[n];
        }

        int catchCount(int n) {
            return tail[n] == NONE ? count[n] - 1 : count[n] - 2;
        }

        boolean isCatch(int n) {
            return parent[n] != NONE && sort[parent[n]] == TRY && mark[n] != NONE;
        }
    }

    /** The row that is being made, if its sort is not NONE. */
    private static final class Row {
        int sort = NONE;
        int size;
        boolean hasDefault;
        final int[] parts = new int[MOST_NODES];

        boolean isOpen() {
            return sort != NONE;
        }

        void start(int newSort) {
            sort = newSort;
        }

        void close() {
            sort = NONE;
            size = 0;
            hasDefault = false;
        }

        boolean fitsMark(int mark) {
            return mark == UNMARKED || mark == CASE || mark == DEFAULT && !hasDefault;
        }

        void add(int part, int mark) {
            parts[size] = part;
            size++;
            // In a TRY the same number is a KIND.
            if (sort != TRY && mark == DEFAULT) {
                hasDefault = true;
            }
        }
    }

    /**
     * How NODES can end. THE RULES and WALKS ask the same of most SORTS; what they see otherwise
     * stands in the two classes below this one. All is first found as if each NODE were come to,
     * parts before what they are part of, and only then spread from THE ROOT: what a NODE comes to
     * never hangs on what is outside it.
     */
    private abstract static class Flow {
        final Tree tree;
        final Kinds kinds;
        // Parts that are come to if what they are part of is.
        private long open;
        private long met;
        private long normal;
        private long returning;
        // The TARGETS, as bits, of the jumps that leave a NODE.
        private final long[] breaks = new long[MOST_NODES];
        private final long[] continues = new long[MOST_NODES];
        final int[] thrown = new int[MOST_NODES];

        Flow(Tree tree, Kinds kinds) {
            this.tree = tree;
            this.kinds = kinds;
        }

        abstract int thrownAs(int kind);

        abstract int testOfIf(int n);

        /** Whether a CATCH is come to, where CATCHES before it take the KINDS told as bits. */
        abstract boolean opensCatch(int kind, int fromBody, int caught);

        /** Whether the ENDING of a TRY is come to, which till now ends as BODY and CATCHES do. */
        abstract boolean opensEnding(int n);

        final void forget() {
            open = 0;
            met = 0;
            normal = 0;
            returning = 0;
        }

        final void flow(int[] order, int length, int[] targets) {
            forget();
            for (int i = length - 1; i >= 0; i--) {
                settle(order[i], targets[order[i]]);
            }
            for (int i = 0; i < length; i++) {
                int n = order[i];
                if (i == 0 || isIn(met, tree.parent[n]) && isIn(open, n)) {
                    met |= 1L << n;
                }
            }
        }

        private void settle(int n, int target) {
            wipe(n);
            switch (tree.sort[n]) {
                case EMPTY:
                    normal |= 1L << n;
                    break;
                case ACT:
                    normal |= 1L << n;
                    thrown[n] = tree.value[n] == NONE ? 0 : thrownAs(tree.value[n]);
                    break;
                case THROW:
                    thrown[n] = thrownAs(tree.value[n]);
                    break;
                case RETURN:
                    returning |= 1L << n;
                    break;
                case BREAK:
                    breaks[n] = target == NONE ? 0 : 1L << target;
                    break;
                case CONTINUE:
                    continues[n] = target == NONE ? 0 : 1L << target;
                    break;
                case TRY:
                    settleTry(n);
                    break;
                default:
                    settleWhole(n);
                    break;
            }
        }

        private void wipe(int n) {
            normal &= ~(1L << n);
            returning &= ~(1L << n);
            breaks[n] = 0;
            continues[n] = 0;
            thrown[n] = 0;
        }

        private void settleWhole(int n) {
            boolean before = true;
            for (int i = 0; i < tree.count[n]; i++) {
                int part = tree.kid(n, i);
                boolean opens = opensPart(n, part, i, before);
                if (opens) {
                    comeTo(n, part);
                }
                before = opens && endsNormally(part);
            }
            if (goesPast(n, before) || isIn(breaks[n], n)) {
                normal |= 1L << n;
            }
            breaks[n] &= ~(1L << n);
            continues[n] &= ~(1L << n);
        }

        private boolean opensPart(int n, int part, int i, boolean before) {
            switch (tree.sort[n]) {
                case IF:
                    return testOfIf(n) == OPEN || testOfIf(n) == (i == 0 ? TRUE : FALSE);
                case WHILE:
                case FOR:
                    return tree.testOf(n) != FALSE;
                case BLOCK:
                    return before;
                case SWITCH:
                    return before || tree.mark[part] != UNMARKED;
                default:
                    return true;
            }
        }

        /**
         * Whether a NODE with parts, no TRY, can end NORMALLY without a BREAK to it; its last part
         * goes on, if there is none.
         */
        private boolean goesPast(int n, boolean lastGoesOn) {
            switch (tree.sort[n]) {
                case IF:
                    return tree.count[n] == 1 && testOfIf(n) != TRUE || somePartGoesOn(n);
                case WHILE:
                case FOR:
                    return tree.testOf(n) != TRUE;
                case DO:
                    return tree.testOf(n) != TRUE && (somePartGoesOn(n) || isIn(continues[n], n));
                case EACH:
                    return true;
                case BLOCK:
                    return lastGoesOn;
                case SWITCH:
                    return !tree.hasDefault(n) || tree.tail[n] != UNMARKED || lastGoesOn;
                case RULES:
                    return !tree.hasDefault(n) || somePartGoesOn(n);
                default:
                    return somePartGoesOn(n);
            }
        }

        private boolean somePartGoesOn(int n) {
            return (tree.partBits[n] & open & normal) != 0;
        }

        private void settleTry(int n) {
            int body = tree.kid(n, 0);
            comeTo(n, body);
            thrown[n] = 0;
            int caught = 0;
            for (int i = 1; i <= tree.catchCount(n); i++) {
                int part = tree.kid(n, i);
                int kind = tree.mark[part];
                if (opensCatch(kind, thrown[body], caught)) {
                    comeTo(n, part);
                }
                caught |= kinds.below[kind];
            }
            thrown[n] |= thrown[body] & ~caught;
            if (somePartGoesOn(n)) {
                normal |= 1L << n;
            }
            int ending = tree.tail[n];
            if (ending != NONE && opensEnding(n)) {
                if (!endsNormally(ending)) {
                    wipe(n);
                }
                comeTo(n, ending);
            }
        }

        /** A part is come to from its NODE, which can end as the part does, but for NORMALLY. */
        private void comeTo(int n, int part) {
            open |= 1L << part;
            if (isIn(returning, part)) {
                returning |= 1L << n;
            }
            breaks[n] |= breaks[part];
            continues[n] |= continues[part];
            thrown[n] |= thrown[part];
        }

        final boolean meets(int n) {
            return isIn(met, n);
        }

        final boolean endsNormally(int n) {
            return isIn(normal, n);
        }

        final boolean endsSomehow(int n) {
            return isIn(normal | returning, n) || (breaks[n] | continues[n] | thrown[n]) != 0;
        }

        final boolean endsBy(int n, int how, int which) {
            switch (how) {
                case 0:
                    return isIn(normal, n);
                case 1:
                    return isIn(returning, n);
                case 2:
                    return isIn(breaks[n], which);
                case 3:
                    return isIn(continues[n], which);
                default:
                    return isIn(thrown[n], which);
            }
        }
    }

    /** THE RULES: to end normally is to COMPLETE, to be thrown is what a NODE CAN THROW. */
    private static final class ByRules extends Flow {
        ByRules(Tree tree, Kinds kinds) {
            super(tree, kinds);
        }

        int thrownAs(int kind) {
            return 1 << kind;
        }

        int testOfIf(int n) {
            return OPEN;
        }

        boolean opensCatch(int kind, int fromBody, int caught) {
            int related = kinds.below[kind] | kinds.over[kind];
            return !isIn(caught, kind)
                    && (kinds.needsNoThrower(kind) || (fromBody & related) != 0);
        }

        boolean opensEnding(int n) {
            return true;
        }
    }

    /** WALKS, which ask each known TEST and throw what really comes. */
    private static final class ByWalks extends Flow {
        ByWalks(Tree tree, Kinds kinds) {
            super(tree, kinds);
        }

        int thrownAs(int kind) {
            return kinds.below[kind];
        }

        int testOfIf(int n) {
            return tree.value[n];
        }

        boolean opensCatch(int kind, int fromBody, int caught) {
            return (fromBody & ~caught & kinds.below[kind]) != 0;
        }

        boolean opensEnding(int n) {
            return endsSomehow(n);
        }
    }

    /** What was found of THE ROOT that was looked at last. */
    private static final class Look {
        private final Tree tree;
        private final Kinds kinds;
        final Flow rules;
        final Flow walks;
        int root;
        private int length;
        private final int[] order = new int[MOST_NODES];
        private final int[] waiting = new int[MOST_NODES];
        final int[] targets = new int[MOST_NODES];
        int faultCount;
        final int[] faultSort = new int[MOST_FAULTS];
        final int[] faultNode = new int[MOST_FAULTS];
        int noteCount;
        final int[] noteNode = new int[MOST_NODES];

        Look(Tree tree, Kinds kinds) {
            this.tree = tree;
            this.kinds = kinds;
            rules = new ByRules(tree, kinds);
            walks = new ByWalks(tree, kinds);
            startAgain();
        }

        void startAgain() {
            root = NONE;
            length = 0;
            faultCount = 0;
            noteCount = 0;
            rules.forget();
            walks.forget();
            forgetTargets();
        }

        private void forgetTargets() {
            for (int n = 0; n < MOST_NODES; n++) {
                targets[n] = NONE;
            }
        }

        void lookAt(int newRoot) {
            root = newRoot;
            orderText();
            findTargets();
            rules.flow(order, length, targets);
            walks.flow(order, length, targets);
            listFaults();
            listNotes();
        }

        private void orderText() {
            length = 0;
            waiting[0] = root;
            int left = 1;
            while (left > 0 && length < MOST_NODES) {
                left--;
                int n = waiting[left];
                order[length] = n;
                length++;
                for (int i = tree.count[n] - 1; i >= 0; i--) {
                    waiting[left] = tree.kid(n, i);
                    left++;
                }
            }
        }

        private void findTargets() {
            forgetTargets();
            for (int i = 0; i < length; i++) {
                int n = order[i];
                if (isJump(n)) {
                    targets[n] = targetOf(n);
                }
            }
        }

        private boolean isJump(int n) {
            return tree.sort[n] == BREAK || tree.sort[n] == CONTINUE;
        }

        private int targetOf(int jump) {
            int name = tree.value[jump];
            if (name != NONE) {
                int label = labelAround(jump, name);
                return tree.sort[jump] == BREAK || label == NONE ? label : loopIn(label);
            }
            int n = jump;
            for (int steps = 0; n != root && steps < MOST_NODES; steps++) {
                n = tree.parent[n];
                if (stopsNameless(tree.sort[jump], tree.sort[n])) {
                    return n;
                }
            }
            return NONE;
        }

        private static boolean stopsNameless(int jumpSort, int sort) {
            return isLoop(sort) || jumpSort == BREAK && (sort == SWITCH || sort == RULES);
        }

        private int labelAround(int inner, int name) {
            int n = inner;
            for (int steps = 0; n != root && steps < MOST_NODES; steps++) {
                n = tree.parent[n];
                if (tree.sort[n] == LABEL && tree.value[n] == name) {
                    return n;
                }
            }
            return NONE;
        }

        private int loopIn(int label) {
            int part = tree.kid(label, 0);
            return isLoop(tree.sort[part]) ? part : NONE;
        }

        private void listFaults() {
            faultCount = 0;
            for (int i = 0; i < length; i++) {
                int n = order[i];
                // What THE ROOT itself is part of is not looked at.
                if (n != root) {
                    listPlaceFault(n);
                }
                if (isJump(n) && targets[n] == NONE) {
                    addFault(NO_TARGET, n);
                }
                if (tree.sort[n] == LABEL && labelAround(n, tree.value[n]) != NONE) {
                    addFault(NAME_TWICE, n);
                }
            }
        }

        /** The FAULTS by where a NODE stands; a CATCH is a BLOCK and can have no others. */
        private void listPlaceFault(int n) {
            boolean lost = !rules.meets(n) && rules.meets(tree.parent[n]);
            if (!tree.isCatch(n)) {
                int before = tree.kidBefore(n);
                if (lost && (before == NONE || rules.meets(before))) {
                    addFault(NOT_REACHED, n);
                }
            } else if (isCaughtBefore(n)) {
                addFault(CAUGHT_BEFORE, n);
            } else if (lost) {
                addFault(CAUGHT_NEVER, n);
            }
        }

        private boolean isCaughtBefore(int n) {
            int over = kinds.over[tree.mark[n]];
            int whole = tree.parent[n];
            for (int i = 1; i <= tree.catchCount(whole) && tree.kid(whole, i) != n; i++) {
                if (isIn(over, tree.mark[tree.kid(whole, i)])) {
                    return true;
                }
            }
            return false;
        }

        private void addFault(int sort, int n) {
            faultSort[faultCount] = sort;
            faultNode[faultCount] = n;
            faultCount++;
        }

        private void listNotes() {
            noteCount = 0;
            for (int i = 1; i < length; i++) {
                int n = order[i];
                if (rules.meets(n) && !walks.meets(n) && walks.meets(tree.parent[n])) {
                    noteNode[noteCount] = n;
                    noteCount++;
                }
            }
        }

        boolean hasReturn(int value) {
            for (int i = 0; i < length; i++) {
                if (tree.sort[order[i]] == RETURN && tree.value[order[i]] == value) {
                    return true;
                }
            }
            return false;
        }
    }
}
