/** One method for each promise of the document: ordinary inputs, named edges, wrong inputs. */
public final class PromiseTests {
    private static final int NONE = ReachFlow.NONE, BAD = ReachFlow.BAD, FULL = ReachFlow.FULL, NO = ReachFlow.NO;
    private static final int ACT = 1, THROW = 2, RETURN = 3, IF = 4, WHILE = 5, DO = 6, FOR = 7, EACH = 8, LOCK = 9;
    private static final int BLOCK = 0, SWITCH = 1, RULES = 2, TRY = 3;
    private static final int LOW = Integer.MIN_VALUE, HIGH = Integer.MAX_VALUE;
    private static int wrong = 0;

    private static void due(String what, long got, long want) {
        if (got != want) {
            wrong++;
            System.out.println(what + " answered " + got + ", due is " + want);
        }
    }

    private static void due(String what, boolean got, boolean want) {
        due(what, got ? 1 : 0, want ? 1 : 0);
    }

    // ---- short ways to make NODES

    private static int empty(ReachFlow x) {
        return x.node(0, 0, NONE, NONE);
    }

    private static int act(ReachFlow x, int kind) {
        return x.node(ACT, 0, kind, NONE);
    }

    private static int raise(ReachFlow x, int kind) {
        return x.node(THROW, 0, kind, NONE);
    }

    private static int give(ReachFlow x, int value) {
        return x.node(RETURN, 0, value, NONE);
    }

    private static int loop(ReachFlow x, int sort, int test, int part) {
        return x.node(sort, test, part, NONE);
    }

    private static int leave(ReachFlow x) {
        return x.jump(0, NONE);
    }

    private static int again(ReachFlow x) {
        return x.jump(1, NONE);
    }

    private static int block(ReachFlow x, int... parts) {
        x.row(BLOCK);
        for (int part : parts) {
            x.put(part, 0);
        }
        return x.end(0);
    }

    /** A row of parts and marks by turns, then the mark of its end. */
    private static int marked(ReachFlow x, int kind, int endMark, int... partsAndMarks) {
        x.row(kind);
        for (int i = 0; i + 1 < partsAndMarks.length; i += 2) {
            x.put(partsAndMarks[i], partsAndMarks[i + 1]);
        }
        return x.end(endMark);
    }

    /** THE BODY, THE ENDING or NONE, then CATCHES and their KINDS by turns. */
    private static int attempt(ReachFlow x, int body, int ending, int... catchesAndKinds) {
        x.row(TRY);
        x.put(body, NONE);
        for (int i = 0; i + 1 < catchesAndKinds.length; i += 2) {
            x.put(catchesAndKinds[i], catchesAndKinds[i + 1]);
        }
        return x.end(ending);
    }

    private static void faults(String what, ReachFlow x, int root, int... sortsAndNodes) {
        due(what + ": how many", x.check(root), sortsAndNodes.length / 2);
        for (int i = 0; i < sortsAndNodes.length / 2; i++) {
            due(what + ": sort " + i, x.fault(i, 0), sortsAndNodes[2 * i]);
            due(what + ": node " + i, x.fault(i, 1), sortsAndNodes[2 * i + 1]);
        }
    }

    private static void listed(String what, ReachFlow x, int... nodes) {
        due(what + ": how many notes", x.notes(), nodes.length);
        for (int i = 0; i < nodes.length; i++) {
            due(what + ": note " + i, x.note(i), nodes[i]);
        }
    }

    // ---- 1 to 3

    private static void newObject() {
        ReachFlow x = new ReachFlow();
        due("1 nodes", x.of(0), 0);
        due("1 kinds", x.of(1), 4);
        due("1 row", x.of(2), NONE);
        due("1 root", x.of(3), NONE);
        due("1 notes", x.notes(), 0);
        due("1 fault", x.fault(0, 0), BAD);
        due("1 reached", x.reached(0), false);
        due("1 drop", x.drop(), NO);
        int a = act(x, 3);
        due("1 kind 3 is there", a, 0);
        due("1 none looked at: reached", x.reached(a), false);
        due("1 none looked at: completes", x.completes(a), false);
        due("1 none looked at: walked", x.walked(a), false);
        due("1 none looked at: can", x.can(a, 3), 0);
        due("1 none looked at: target", x.target(a), NONE);
        due("1 none looked at: ends", x.ends(a, 0, 0), 0);
        kindsAtFirst();
    }

    private static void kindsAtFirst() {
        ReachFlow x = new ReachFlow();
        int a = raise(x, 1);
        x.check(a);
        due("1 throw 1 by 0", x.ends(a, 4, 0), 0);
        due("1 throw 1 by 1", x.ends(a, 4, 1), 1);
        due("1 throw 1 by 2", x.ends(a, 4, 2), 1);
        due("1 throw 1 by 3", x.ends(a, 4, 3), 0);
        int all = raise(x, 0);
        x.check(all);
        for (int kind = 0; kind < 4; kind++) {
            due("1 throw 0 by " + kind, x.ends(all, 4, kind), 1);
        }
    }

    private static void clear() {
        ReachFlow x = new ReachFlow();
        due("2 of nothing", x.clear(), 0);
        x.exception(0);
        int a = empty(x);
        int stop = leave(x);
        int whole = loop(x, WHILE, 1, stop);
        x.check(whole);
        x.row(SWITCH);
        x.put(a, 2);
        due("2 how many", x.clear(), 3);
        due("2 nodes", x.of(0), 0);
        due("2 kinds", x.of(1), 4);
        due("2 row", x.of(2), NONE);
        due("2 root", x.of(3), NONE);
        due("2 notes", x.notes(), 0);
        due("2 old node", x.told(0, 0), BAD);
        due("2 new node", leave(x), 0);
        due("2 it is free", leave(x), 1);
        due("2 not reached", x.reached(1), false);
        due("2 not walked", x.walked(1), false);
        due("2 no target", x.target(1), NONE);
        due("2 its mark", x.told(0, 4), NONE);
        due("2 its whole", x.told(1, 3), NONE);
        due("2 default is forgotten", x.row(SWITCH), SWITCH);
        due("2 default again", x.put(0, 2), 1);
        due("2 kind 4 is another", x.exception(2), 4);
        int t = raise(x, 2);
        x.check(t);
        due("2 kind 4 stands below 2", x.ends(t, 4, 4), 1);
        due("2 and not as before", x.clear(), 3);
        clearOfLooks();
        clearOfFullTree();
    }

    private static void clearOfLooks() {
        ReachFlow x = new ReachFlow();
        x.exception(1);
        x.exception(4);
        int lost = leave(x);
        int never = x.node(IF, 0, empty(x), NONE);
        int whole = block(x, never, loop(x, WHILE, 0, lost));
        due("2 a FAULT", x.check(whole), 1);
        due("2 a NOTE", x.notes(), 1);
        x.clear();
        due("2 no FAULTS", x.fault(0, 0), BAD);
        due("2 no NOTES", x.notes(), 0);
        due("2 nor the first", x.note(0), BAD);
        x.exception(0);
        x.exception(0);
        int t = raise(x, 4);
        x.check(t);
        due("2 kind 5 is not below 4 as it was", x.ends(t, 4, 5), 0);
    }

    private static void clearOfFullTree() {
        ReachFlow x = new ReachFlow();
        for (int turn = 0; turn < 2; turn++) {
            int s = marked(x, SWITCH, 0, give(x, 0), 1 + turn % 2);
            for (int i = 2; i < 60; i++) {
                s = x.label(0, s);
            }
            due("2 all are parts of one", s, 59);
            x.check(1);
            due("2 SWITCH with and without a DEFAULT", x.completes(1), turn == 0);
            due("2 sixty", x.clear(), 60);
        }
        int s = marked(x, SWITCH, 0, give(x, 0), 1);
        x.check(s);
        due("2 no DEFAULT as there was", x.completes(s), true);
        x.clear();
        int old = empty(x);
        empty(x);
        empty(x);
        due("2 an old BLOCK", block(x, old), 3);
        x.clear();
        int inner = block(x, empty(x), give(x, 0));
        due("2 a new DO", loop(x, DO, 2, inner), 3);
        x.check(3);
        due("2 parts of old ones are none", x.completes(3), false);
    }

    private static void exception() {
        ReachFlow x = new ReachFlow();
        due("3 below 4 too early", x.exception(4), BAD);
        due("3 below -1", x.exception(-1), BAD);
        due("3 below lowest", x.exception(LOW), BAD);
        due("3 nothing was made", x.of(1), 4);
        due("3 first", x.exception(3), 4);
        for (int kind = 5; kind < 12; kind++) {
            due("3 more", x.exception(kind - 1), kind);
        }
        due("3 full", x.exception(0), FULL);
        due("3 bad comes first", x.exception(12), BAD);
        due("3 kinds", x.of(1), 12);
        int t = raise(x, 3);
        x.check(t);
        due("3 the last is below 3", x.ends(t, 4, 11), 1);
        due("3 and not 1", x.ends(t, 4, 1), 0);
    }

    // ---- 4 to 6

    private static void node() {
        ReachFlow x = new ReachFlow();
        int[][] bad = {
            {-1, 0, NONE, NONE}, {10, 0, NONE, NONE}, {LOW, 0, NONE, NONE}, {HIGH, 0, NONE, NONE},
            {0, 1, NONE, NONE}, {0, 0, 0, NONE}, {0, 0, NONE, 0}, {0, 0, -2, NONE}, {0, -1, NONE, NONE},
            {1, 1, NONE, NONE}, {1, 0, 4, NONE}, {1, 0, -2, NONE}, {1, 0, 0, 0}, {1, 0, HIGH, NONE},
            {2, 0, NONE, NONE}, {2, 0, 4, NONE}, {2, 1, 0, NONE}, {2, 0, 0, 0},
            {3, 0, 2, NONE}, {3, 0, -1, NONE}, {3, 1, 0, NONE}, {3, 0, 0, 0},
            {4, 2, 0, NONE}, {5, 2, 0, NONE}, {13, 0, NONE, NONE}, {16, 0, NONE, NONE},
        };
        for (int[] b : bad) {
            due("4 node " + java.util.Arrays.toString(b), x.node(b[0], b[1], b[2], b[3]), BAD);
        }
        due("4 nothing was made", x.of(0), 0);
        due("4 EMPTY", empty(x), 0);
        due("4 ACT of none", act(x, NONE), 1);
        due("4 ACT", act(x, 3), 2);
        due("4 THROW", raise(x, 0), 3);
        due("4 RETURN", give(x, 0), 4);
        due("4 RETURN 1", give(x, 1), 5);
        nodesWithParts(x);
    }

    private static void nodesWithParts(ReachFlow x) {
        int[][] bad = {
            {4, 3, 0, NONE}, {4, -1, 0, NONE}, {4, 2, 0, 0}, {4, 2, NONE, 0}, {4, 2, 0, 6}, {4, 2, 0, -2},
            {4, 2, 6, NONE}, {5, 3, 0, NONE}, {6, 3, 0, NONE}, {5, -1, 0, NONE}, {7, 4, 0, NONE}, {7, -1, 0, NONE},
            {5, 2, 0, 1}, {6, 2, 0, 1}, {7, 2, 0, 1}, {8, 0, 0, 1}, {8, 1, 0, NONE}, {8, 2, 0, NONE},
            {9, 0, 0, NONE}, {9, 0, NONE, NONE}, {5, 2, NONE, NONE}, {6, 2, -7, NONE}, {7, 2, HIGH, NONE},
            {8, 0, LOW, NONE},
        };
        for (int[] b : bad) {
            due("4 node " + java.util.Arrays.toString(b), x.node(b[0], b[1], b[2], b[3]), BAD);
        }
        due("4 IF", x.node(IF, 2, 0, 1), 6);
        due("4 a part is free no more", x.node(WHILE, 2, 0, NONE), BAD);
        due("4 nor is the second", x.node(IF, 2, 2, 1), BAD);
        due("4 WHILE", x.node(WHILE, 0, 2, NONE), 7);
        due("4 DO", x.node(DO, 1, 3, NONE), 8);
        due("4 FOR without a test", x.node(FOR, 3, 4, NONE), 9);
        due("4 EACH", x.node(EACH, 0, 5, NONE), 10);
        due("4 a LOCK needs a BLOCK", x.node(LOCK, 0, 6, NONE), BAD);
        int b = block(x);
        due("4 LOCK with a test", x.node(LOCK, 1, b, NONE), BAD);
        due("4 LOCK with two", x.node(LOCK, 0, b, 10), BAD);
        due("4 LOCK", x.node(LOCK, 0, b, NONE), 12);
        due("4 IF of one", x.node(IF, 0, 12, NONE), 13);
        x.row(BLOCK);
        x.put(13, 0);
        due("4 what is put is not free", x.node(WHILE, 2, 13, NONE), BAD);
        due("4 nodes are made beside a row", empty(x), 14);
        while (x.of(0) < 60) {
            empty(x);
        }
        due("4 full", empty(x), FULL);
        due("4 full with a part", x.node(WHILE, 2, 14, NONE), FULL);
        due("4 it stays free", x.told(14, 3), NONE);
        due("4 bad before full", x.node(WHILE, 2, 13, NONE), BAD);
        due("4 sixty", x.of(0), 60);
    }

    private static void jump() {
        ReachFlow x = new ReachFlow();
        due("5 kind 2", x.jump(2, NONE), BAD);
        due("5 kind -1", x.jump(-1, NONE), BAD);
        due("5 name 6", x.jump(0, 6), BAD);
        due("5 name -2", x.jump(1, -2), BAD);
        due("5 name lowest", x.jump(1, LOW), BAD);
        due("5 BREAK", x.jump(0, NONE), 0);
        due("5 CONTINUE", x.jump(1, 5), 1);
        due("5 BREAK with a name", x.jump(0, 0), 2);
        due("5 sort", x.told(0, 0), 10);
        due("5 sort", x.told(1, 0), 11);
        due("5 name", x.told(0, 1), NONE);
        due("5 name", x.told(1, 1), 5);
        due("5 name", x.told(2, 1), 0);
        while (x.of(0) < 60) {
            empty(x);
        }
        due("5 full", x.jump(0, NONE), FULL);
        due("5 bad before full", x.jump(0, 6), BAD);
    }

    private static void label() {
        ReachFlow x = new ReachFlow();
        due("6 no node", x.label(0, 0), BAD);
        int a = empty(x);
        due("6 name 6", x.label(6, a), BAD);
        due("6 no name", x.label(NONE, a), BAD);
        due("6 no part", x.label(0, NONE), BAD);
        due("6 itself", x.label(0, 1), BAD);
        due("6 LABEL", x.label(5, a), 1);
        due("6 sort", x.told(1, 0), 12);
        due("6 name", x.told(1, 1), 5);
        due("6 part", x.part(1, 0), a);
        due("6 part is not free", x.label(0, a), BAD);
        due("6 of a label", x.label(0, 1), 2);
        while (x.of(0) < 60) {
            empty(x);
        }
        due("6 full", x.label(0, 59), FULL);
        due("6 bad before full", x.label(0, a), BAD);
        due("6 nothing changed", x.told(59, 3), NONE);
    }

    // ---- 7 to 10

    private static void row() {
        ReachFlow x = new ReachFlow();
        due("7 kind 4", x.row(4), BAD);
        due("7 kind -1", x.row(-1), BAD);
        due("7 none is made", x.of(2), NONE);
        for (int kind = 0; kind < 4; kind++) {
            due("7 kind", x.row(kind), kind);
            due("7 it has none", x.of(2), 0);
            due("7 another one", x.row(kind), NO);
            due("7 bad before no", x.row(4), BAD);
            due("7 dropped", x.drop(), 0);
        }
        int[] sorts = {13, 14, 15};
        for (int kind = 0; kind < 3; kind++) {
            x.row(kind);
            due("7 sort of kind " + kind, x.told(x.end(0), 0), sorts[kind]);
        }
        int body = block(x);
        int ending = block(x);
        x.row(TRY);
        x.put(body, NONE);
        due("7 sort of a TRY", x.told(x.end(ending), 0), 16);
    }

    private static void put() {
        ReachFlow x = new ReachFlow();
        due("8 no row is being made", x.put(0, 0), NO);
        due("8 this first", x.put(-5, 99), NO);
        int a = empty(x);
        int b = empty(x);
        x.row(BLOCK);
        due("8 BLOCK mark 1", x.put(a, 1), BAD);
        due("8 BLOCK mark NONE", x.put(a, NONE), BAD);
        due("8 no node", x.put(2, 0), BAD);
        due("8 no node", x.put(NONE, 0), BAD);
        due("8 one", x.put(a, 0), 1);
        due("8 twice", x.put(a, 0), BAD);
        due("8 two", x.put(b, 0), 2);
        due("8 no mark in a BLOCK", x.told(a, 4), NONE);
        due("8 part of none yet", x.told(a, 3), NONE);
        due("8 free no more", x.label(0, a), BAD);
        x.drop();
        putInSwitch(x, a, b);
        putInRules();
        putInTry();
    }

    private static void putInSwitch(ReachFlow x, int a, int b) {
        int c = empty(x);
        x.row(SWITCH);
        due("8 SWITCH begins without a mark", x.put(a, 0), BAD);
        due("8 SWITCH mark 3", x.put(a, 3), BAD);
        due("8 SWITCH mark NONE", x.put(a, NONE), BAD);
        due("8 refused parts stay free", x.told(a, 4), NONE);
        due("8 SWITCH one", x.put(a, 2), 1);
        due("8 SWITCH second default", x.put(b, 2), BAD);
        due("8 SWITCH two", x.put(b, 0), 2);
        due("8 SWITCH three", x.put(c, 1), 3);
        due("8 mark", x.told(a, 4), 2);
        due("8 mark", x.told(b, 4), 0);
        due("8 mark", x.told(c, 4), 1);
        due("8 mark, after", x.told(x.part(x.end(0), 0), 4), 2);
    }

    private static void putInRules() {
        ReachFlow x = new ReachFlow();
        int block = block(x);
        int act = act(x, NONE);
        int raise = raise(x, 1);
        int empty = empty(x);
        int give = give(x, 0);
        x.row(RULES);
        due("8 RULES of EMPTY", x.put(empty, 1), BAD);
        due("8 RULES of RETURN", x.put(give, 1), BAD);
        due("8 RULES mark 0", x.put(block, 0), BAD);
        due("8 RULES mark 3", x.put(block, 3), BAD);
        due("8 RULES BLOCK", x.put(block, 1), 1);
        due("8 RULES mark 0, later", x.put(act, 0), BAD);
        due("8 RULES ACT", x.put(act, 2), 2);
        due("8 RULES second default", x.put(raise, 2), BAD);
        due("8 RULES THROW", x.put(raise, 1), 3);
        due("8 RULES end mark", x.end(2), BAD);
        int rules = x.end(0);
        due("8 RULES parts", x.told(rules, 2), 3);
        due("8 RULES mark", x.told(act, 4), 2);
        x.row(RULES);
        due("8 RULES of RULES", x.put(rules, 1), BAD);
    }

    private static void putInTry() {
        ReachFlow x = new ReachFlow();
        int body = block(x);
        int one = block(x);
        int two = block(x);
        int three = block(x);
        int act = act(x, 1);
        x.row(TRY);
        due("8 BODY of a KIND", x.put(body, 0), BAD);
        due("8 BODY is a BLOCK", x.put(act, NONE), BAD);
        due("8 BODY", x.put(body, NONE), 1);
        due("8 CATCH without a KIND", x.put(one, NONE), BAD);
        due("8 CATCH of no KIND", x.put(one, 4), BAD);
        due("8 CATCH is a BLOCK", x.put(act, 1), BAD);
        due("8 CATCH of 2", x.put(one, 2), 2);
        due("8 CATCH of 2 again", x.put(two, 2), 3);
        due("8 no mark of the BODY", x.told(body, 4), NONE);
        due("8 KIND of a CATCH", x.told(one, 4), 2);
        x.exception(0);
        due("8 CATCH of a new KIND", x.put(three, 4), 4);
        due("8 parts", x.of(2), 4);
    }

    private static void end() {
        ReachFlow x = new ReachFlow();
        due("9 no row is being made", x.end(0), NO);
        due("9 this first", x.end(99), NO);
        x.row(BLOCK);
        due("9 BLOCK 1", x.end(1), BAD);
        due("9 BLOCK NONE", x.end(NONE), BAD);
        due("9 BLOCK goes on", x.of(2), 0);
        due("9 BLOCK", x.end(0), 0);
        due("9 is made no more", x.of(2), NONE);
        due("9 is FREE", x.label(0, 0), 1);
        x.row(SWITCH);
        due("9 SWITCH 3", x.end(3), BAD);
        due("9 SWITCH NONE", x.end(NONE), BAD);
        due("9 SWITCH of none", x.end(0), 2);
        due("9 its end's mark is not told", x.told(marked(x, SWITCH, 1), 1), 0);
        int a = empty(x);
        x.row(SWITCH);
        x.put(a, 2);
        due("9 second DEFAULT", x.end(2), BAD);
        int s = x.end(1);
        due("9 SWITCH", s, 5);
        due("9 whole", x.told(a, 3), s);
        x.row(RULES);
        due("9 RULES 1", x.end(1), BAD);
        due("9 RULES of none", x.end(0), 6);
        endOfTry();
        endWhenFull();
    }

    private static void endOfTry() {
        ReachFlow x = new ReachFlow();
        int body = block(x);
        int other = block(x);
        int act = act(x, 1);
        x.row(TRY);
        due("9 TRY without a BODY", x.end(NONE), BAD);
        due("9 TRY without a BODY, with an ENDING", x.end(other), BAD);
        x.put(body, NONE);
        due("9 TRY of a BODY alone", x.end(NONE), BAD);
        due("9 ENDING is the BODY", x.end(body), BAD);
        due("9 ENDING is no BLOCK", x.end(act), BAD);
        due("9 ENDING is no NODE", x.end(3), BAD);
        due("9 ENDING -2", x.end(-2), BAD);
        int t = x.end(other);
        due("9 TRY with an ENDING", t, 3);
        due("9 ENDING is part", x.told(other, 3), t);
        due("9 ENDING has no mark", x.told(other, 4), NONE);
        due("9 two parts", x.told(t, 2), 2);
        due("9 the ENDING is the last", x.part(t, 1), other);
        int b = block(x);
        int c = block(x);
        due("9 TRY with a CATCH of 2", attempt(x, b, NONE, c, 2), 6);
        due("9 a CATCH of 2 is no DEFAULT", x.row(SWITCH), SWITCH);
        due("9 so there is none", x.end(2), 7);
    }

    private static void endWhenFull() {
        ReachFlow x = new ReachFlow();
        while (x.of(0) < 60) {
            empty(x);
        }
        x.row(BLOCK);
        for (int n = 0; n < 60; n++) {
            due("9 all are put", x.put(n, 0), n + 1);
        }
        due("9 bad before full", x.end(1), BAD);
        due("9 full", x.end(0), FULL);
        due("9 the row stays", x.of(2), 60);
        due("9 sixty", x.of(0), 60);
        due("9 all are dropped", x.drop(), 60);
    }

    private static void drop() {
        ReachFlow x = new ReachFlow();
        due("10 none", x.drop(), NO);
        int a = empty(x);
        int b = empty(x);
        x.row(SWITCH);
        x.put(a, 1);
        x.put(b, 2);
        due("10 two", x.drop(), 2);
        due("10 gone", x.of(2), NONE);
        due("10 again", x.drop(), NO);
        due("10 no mark", x.told(b, 4), NONE);
        due("10 nodes stay", x.of(0), 2);
        due("10 free", x.label(0, a), 2);
        x.row(SWITCH);
        due("10 the default is gone, too", x.put(b, 2), 1);
        due("10 one", x.drop(), 1);
        due("10 no row", x.put(b, 1), NO);
    }

    // ---- 11 to 13

    private static void told() {
        ReachFlow x = new ReachFlow();
        due("11 no node", x.told(0, 0), BAD);
        int a = act(x, NONE);
        int t = raise(x, 3);
        int g = give(x, 1);
        int f = x.node(FOR, 3, a, NONE);
        int i = x.node(IF, 1, t, g);
        int e = x.node(EACH, 0, f, NONE);
        due("11 what 5", x.told(a, 5), BAD);
        due("11 what -1", x.told(a, -1), BAD);
        due("11 node -1", x.told(-1, 0), BAD);
        due("11 node 6", x.told(6, 0), BAD);
        int[][] rows = {{1, NONE, 0, f, NONE}, {2, 3, 0, i, NONE}, {3, 1, 0, i, NONE}, {7, 3, 1, e, NONE},
            {4, 1, 2, NONE, NONE}, {8, 0, 1, NONE, NONE}};
        for (int n = 0; n < rows.length; n++) {
            for (int what = 0; what < 5; what++) {
                due("11 told " + n + " " + what, x.told(n, what), rows[n][what]);
            }
        }
        int body = block(x, i);
        int c = block(x, e);
        int ending = block(x);
        int whole = attempt(x, body, ending, c, 0);
        due("11 TRY", x.told(whole, 0), 16);
        due("11 TRY value", x.told(whole, 1), 0);
        due("11 TRY parts", x.told(whole, 2), 3);
        due("11 KIND 0 of a CATCH", x.told(c, 4), 0);
        due("11 BODY", x.told(body, 4), NONE);
        due("11 ENDING", x.told(ending, 4), NONE);
        due("11 in a BLOCK", x.told(i, 4), NONE);
        int lock = x.node(LOCK, 0, block(x, whole), NONE);
        due("11 LOCK", x.told(lock, 1), 0);
    }

    private static void part() {
        ReachFlow x = new ReachFlow();
        due("12 no node", x.part(0, 0), BAD);
        int a = empty(x);
        int b = empty(x);
        int c = empty(x);
        int i = x.node(IF, 2, c, a);
        int whole = block(x, i, b);
        due("12 IF first", x.part(i, 0), c);
        due("12 IF second", x.part(i, 1), a);
        due("12 IF third", x.part(i, 2), BAD);
        due("12 BLOCK first", x.part(whole, 0), i);
        due("12 BLOCK second", x.part(whole, 1), b);
        due("12 -1", x.part(whole, -1), BAD);
        due("12 2", x.part(whole, 2), BAD);
        due("12 of none", x.part(a, 0), BAD);
        due("12 lowest", x.part(whole, LOW), BAD);
        due("12 highest", x.part(whole, HIGH), BAD);
        due("12 no node", x.part(5, 0), BAD);
        due("12 no node", x.part(NONE, 0), BAD);
    }

    private static void of() {
        ReachFlow x = new ReachFlow();
        due("13 4", x.of(4), BAD);
        due("13 -1", x.of(-1), BAD);
        int a = empty(x);
        x.exception(2);
        x.row(BLOCK);
        x.put(a, 0);
        due("13 nodes", x.of(0), 1);
        due("13 kinds", x.of(1), 5);
        due("13 parts", x.of(2), 1);
        due("13 root", x.of(3), NONE);
        x.check(a);
        due("13 root", x.of(3), a);
        int whole = x.end(0);
        due("13 root stays", x.of(3), a);
        x.member(whole, 0);
        due("13 root of member", x.of(3), whole);
    }

    // ---- 14: what is looked at

    private static void check() {
        ReachFlow x = new ReachFlow();
        due("14 no node", x.check(0), BAD);
        int stop = leave(x);
        int inner = loop(x, WHILE, 1, stop);
        int after = empty(x);
        int whole = block(x, inner, after);
        due("14 none", x.check(whole), 0);
        due("14 -1", x.check(-1), BAD);
        due("14 4", x.check(4), BAD);
        due("14 what is refused changes nothing", x.of(3), whole);
        due("14 reached", x.reached(after), true);
        due("14 target", x.target(stop), inner);
        due("14 a part alone", x.check(stop), 1);
        due("14 not in it", x.reached(after), false);
        due("14 not in it", x.reached(whole), false);
        due("14 not in it", x.walked(inner), false);
        due("14 not in it", x.completes(after), false);
        due("14 not in it", x.ends(after, 0, 0), 0);
        due("14 in it", x.reached(stop), true);
        due("14 other target", x.target(stop), NONE);
        x.check(inner);
        due("14 found again", x.target(stop), inner);
        x.check(after);
        due("14 not in it", x.target(stop), NONE);
        laterKinds();
    }

    private static void laterKinds() {
        ReachFlow x = new ReachFlow();
        int t = raise(x, 1);
        x.check(t);
        due("14 bad kind", x.ends(t, 4, 4), BAD);
        due("14 bad kind", x.can(t, 4), BAD);
        x.exception(1);
        due("14 later kind", x.ends(t, 4, 4), 0);
        due("14 later kind", x.can(t, 4), 0);
        x.check(t);
        due("14 seen now", x.ends(t, 4, 4), 1);
        int late = empty(x);
        due("14 later node", x.reached(late), false);
        due("14 later node", x.target(late), NONE);
        int row = empty(x);
        x.row(BLOCK);
        x.put(row, 0);
        due("14 a part of the row that is being made", x.check(row), 0);
        due("14 it is reached", x.reached(row), true);
    }

    // ---- 15: FAULTS

    private static void fault() {
        ReachFlow x = new ReachFlow();
        int g = give(x, 0);
        int a = empty(x);
        int stop = leave(x);
        int whole = block(x, g, a, stop);
        faults("15 the first alone", x, whole, 1, a, 2, stop);
        due("15 i 2", x.fault(2, 0), BAD);
        due("15 i -1", x.fault(-1, 0), BAD);
        due("15 what 2", x.fault(0, 2), BAD);
        due("15 what -1", x.fault(0, -1), BAD);
        x = new ReachFlow();
        g = give(x, 0);
        stop = x.jump(1, 3);
        faults("15 two at a NODE", x, block(x, g, stop), 1, stop, 2, stop);
        faultsOfSwitch();
        faultsOfCatches();
        faultsOfLabels();
        deepFaults();
    }

    private static void faultsOfSwitch() {
        ReachFlow x = new ReachFlow();
        int[] n = new int[7];
        for (int i = 0; i < n.length; i++) {
            n[i] = i == 0 || i == 3 ? give(x, 0) : empty(x);
        }
        int whole = marked(x, SWITCH, 0, n[0], 1, n[1], 0, n[2], 0, n[3], 2, n[4], 0, n[5], 1, n[6], 0);
        faults("15 one a run", x, whole, 1, n[1], 1, n[4]);
        due("15 reached by falling", x.reached(n[6]), true);
    }

    private static void faultsOfCatches() {
        ReachFlow x = new ReachFlow();
        int mine = x.exception(1);
        int below = x.exception(mine);
        int body = block(x);
        int c1 = block(x);
        int c2 = block(x);
        int c3 = block(x);
        int c4 = block(x);
        int whole = attempt(x, body, NONE, c1, mine, c2, below, c3, 1, c4, mine);
        faults("15 CATCHES", x, whole, 4, c1, 3, c2, 3, c4);
        due("15 c3", x.reached(c3), true);
        faults("15 a CATCH as ROOT", x, c2);
        int g = give(x, 0);
        int outer = block(x, g, whole);
        faults("15 not reached, but caught before", x, outer, 1, whole, 3, c2, 3, c4);
        x = new ReachFlow();
        int same = block(x);
        int twice = block(x);
        whole = attempt(x, block(x), NONE, same, 2, twice, 2);
        faults("15 a KIND is BELOW itself", x, whole, 3, twice);
    }

    private static void faultsOfLabels() {
        ReachFlow x = new ReachFlow();
        int inner = x.label(2, empty(x));
        int between = x.label(3, inner);
        int outer = x.label(2, block(x, between));
        faults("15 same NAME", x, outer, 5, inner);
        faults("15 not looked at outside", x, between);
        int next = x.label(3, empty(x));
        faults("15 beside is fine", x, block(x, outer, next), 5, inner);
        x = new ReachFlow();
        int late = x.label(0, empty(x));
        int whole = x.label(0, block(x, give(x, 0), late));
        faults("15 two at a LABEL", x, whole, 1, late, 5, late);
    }

    private static void deepFaults() {
        ReachFlow x = new ReachFlow();
        int stop = leave(x);
        int inner = block(x, stop);
        int lost = loop(x, WHILE, 0, inner);
        int body = block(x, lost);
        int catcher = block(x, x.jump(1, NONE));
        int g = give(x, 1);
        int dead = empty(x);
        int ending = block(x, g, dead);
        int whole = attempt(x, body, ending, catcher, 0);
        faults("15 order of the text", x, whole, 1, inner, 2, x.part(catcher, 0), 1, dead);
    }

    // ---- 16, 17: NOTES

    private static void notes() {
        ReachFlow x = new ReachFlow();
        int never = block(x, empty(x));
        int g = give(x, 0);
        int i = x.node(IF, 1, g, never);
        int a = empty(x);
        int b = empty(x);
        int whole = block(x, i, a, b);
        due("16 no FAULTS", x.check(whole), 0);
        listed("16 not what lies in them", x, never, a, b);
        x.check(never);
        listed("16 of another ROOT", x);
        int loop = loop(x, WHILE, 2, leave(x));
        x.check(loop);
        listed("16 none", x);
    }

    private static void note() {
        ReachFlow x = new ReachFlow();
        due("17 none looked at", x.note(0), BAD);
        int never = empty(x);
        int i = x.node(IF, 0, never, NONE);
        x.check(i);
        due("17 note", x.note(0), never);
        due("17 1", x.note(1), BAD);
        due("17 -1", x.note(-1), BAD);
        due("17 lowest", x.note(LOW), BAD);
        int body = block(x, loop(x, FOR, 3, empty(x)));
        int ending = block(x, act(x, NONE));
        int whole = attempt(x, body, ending);
        x.check(whole);
        listed("17 ENDING behind an endless BODY", x, ending);
        due("17 its part is not listed", x.walked(x.part(ending, 0)), false);
        due("17 but reached", x.reached(x.part(ending, 0)), true);
    }

    // ---- 18, 19: REACHED, COMPLETES

    private static void reached() {
        ReachFlow x = new ReachFlow();
        due("18 no node", x.reached(0), false);
        due("18 -1", x.reached(-1), false);
        due("18 highest", x.reached(HIGH), false);
        int[] sorts = {WHILE, FOR, DO, IF};
        for (int sort : sorts) {
            for (int test = 0; test < 3; test++) {
                int part = empty(x);
                x.check(x.node(sort, test, part, NONE));
                due("18 part of " + sort + " by " + test, x.reached(part), sort == DO || sort == IF || test != 0);
            }
        }
        x = new ReachFlow();
        int deep = empty(x);
        int in = block(x, deep);
        int lost = loop(x, WHILE, 0, in);
        x.check(lost);
        due("18 of one that is not reached no part is", x.reached(deep), false);
        due("18 nor completes", x.completes(deep), false);
        reachedCatches();
    }

    private static void reachedCatches() {
        ReachFlow x = new ReachFlow();
        int mine = x.exception(1);
        int below = x.exception(mine);
        int beside = x.exception(1);
        int run = x.exception(2);
        int error = x.exception(3);
        int[] of = {mine, below, beside, run, error, 0, 1, 2, 3};
        boolean[] due = {true, true, false, true, true, true, true, true, true};
        for (int i = 0; i < of.length; i++) {
            x.clear();
            x.exception(1);
            x.exception(mine);
            x.exception(1);
            x.exception(2);
            x.exception(3);
            int c = block(x);
            x.check(attempt(x, block(x, act(x, mine)), NONE, c, of[i]));
            due("18 CATCH of " + of[i], x.reached(c), due[i]);
        }
        x = new ReachFlow();
        x.exception(1);
        int act = act(x, 4);
        int inner = attempt(x, block(x, act), NONE, block(x), 4);
        int c = block(x);
        x.check(attempt(x, block(x, inner), NONE, c, 4));
        due("18 caught inside", x.reached(c), false);
    }

    private static void completes() {
        ReachFlow x = new ReachFlow();
        due("19 no node", x.completes(0), false);
        due("19 lowest", x.completes(LOW), false);
        int[] simple = {empty(x), act(x, 0), raise(x, 0), give(x, 0), leave(x), again(x), block(x)};
        boolean[] due = {true, true, false, false, false, false, true};
        for (int i = 0; i < simple.length; i++) {
            x.check(simple[i]);
            due("19 simple " + i, x.completes(simple[i]), due[i]);
        }
        completesIf();
        completesLoops();
        completesRows();
        completesTries();
        exits();
    }

    private static void completesIf() {
        ReachFlow x = new ReachFlow();
        for (int test = 0; test < 3; test++) {
            int one = x.node(IF, test, give(x, 0), NONE);
            x.check(one);
            due("19 IF of one", x.completes(one), true);
            for (int which = 0; which < 4; which++) {
                int a = which % 2 == 0 ? give(x, 0) : empty(x);
                int b = which / 2 == 0 ? give(x, 0) : empty(x);
                int two = x.node(IF, test, a, b);
                x.check(two);
                due("19 IF of two " + which, x.completes(two), which != 0);
            }
        }
        x.clear();
        int lock = x.node(LOCK, 0, block(x, give(x, 0)), NONE);
        x.check(lock);
        due("19 LOCK", x.completes(lock), false);
        lock = x.node(LOCK, 0, block(x), NONE);
        x.check(lock);
        due("19 LOCK that does", x.completes(lock), true);
        int label = x.label(0, give(x, 0));
        x.check(label);
        due("19 LABEL", x.completes(label), false);
        label = x.label(0, x.jump(0, 0));
        x.check(label);
        due("19 LABEL by a BREAK", x.completes(label), true);
        int other = x.label(1, x.label(0, x.jump(0, 1)));
        x.check(other);
        due("19 not the inner one", x.completes(x.part(other, 0)), false);
        due("19 the outer one", x.completes(other), true);
    }

    private static void completesLoops() {
        // what the part is: EMPTY, RETURN, BREAK, CONTINUE; then the answers for TEST 0, 1, 2
        String[] whiles = {"101", "101", "111", "101"};
        String[] dos = {"101", "000", "111", "101"};
        ReachFlow x = new ReachFlow();
        for (int part = 0; part < 4; part++) {
            for (int test = 0; test < 3; test++) {
                x.clear();
                int w = loop(x, WHILE, test, simple(x, part));
                int f = loop(x, FOR, test, simple(x, part));
                int d = loop(x, DO, test, simple(x, part));
                int e = loop(x, EACH, 0, simple(x, part));
                boolean asWhile = whiles[part].charAt(test) == '1';
                x.check(w);
                due("19 WHILE " + part + test, x.completes(w), asWhile);
                x.check(f);
                due("19 FOR " + part + test, x.completes(f), asWhile);
                x.check(d);
                due("19 DO " + part + test, x.completes(d), dos[part].charAt(test) == '1');
                x.check(e);
                due("19 EACH", x.completes(e), true);
            }
        }
        int endless = loop(x, FOR, 3, empty(x));
        x.check(endless);
        due("19 FOR without a TEST", x.completes(endless), false);
        due("19 and its walks", x.ends(endless, 0, 0), 0);
    }

    private static int simple(ReachFlow x, int which) {
        return which == 0 ? empty(x) : which == 1 ? give(x, 0) : x.jump(which - 2, NONE);
    }

    private static void completesRows() {
        ReachFlow x = new ReachFlow();
        int s = marked(x, SWITCH, 0, give(x, 0), 1);
        x.check(s);
        due("19 SWITCH without a DEFAULT", x.completes(s), true);
        s = marked(x, SWITCH, 0, give(x, 0), 2);
        x.check(s);
        due("19 SWITCH that returns", x.completes(s), false);
        s = marked(x, SWITCH, 1, give(x, 0), 2);
        x.check(s);
        due("19 SWITCH with a case at its end", x.completes(s), true);
        s = marked(x, SWITCH, 0, empty(x), 1, give(x, 0), 2);
        x.check(s);
        due("19 SWITCH falls into RETURN", x.completes(s), false);
        s = marked(x, SWITCH, 0, give(x, 0), 2, empty(x), 1);
        x.check(s);
        due("19 SWITCH whose last one does", x.completes(s), true);
        s = marked(x, SWITCH, 0, leave(x), 2);
        x.check(s);
        due("19 SWITCH by a BREAK", x.completes(s), true);
        x.clear();
        int r = marked(x, RULES, 0, raise(x, 0), 1);
        x.check(r);
        due("19 RULES without a DEFAULT", x.completes(r), true);
        r = marked(x, RULES, 0, raise(x, 0), 2);
        x.check(r);
        due("19 RULES that throw", x.completes(r), false);
        r = marked(x, RULES, 0, act(x, NONE), 1, raise(x, 0), 2);
        x.check(r);
        due("19 RULES of which one does", x.completes(r), true);
        due("19 RULES do not fall", x.reached(x.part(r, 1)), true);
        r = marked(x, RULES, 0, block(x, leave(x)), 2);
        x.check(r);
        due("19 RULES by a BREAK", x.completes(r), true);
        int first = marked(x, SWITCH, 0, give(x, 0), 2);
        int second = marked(x, RULES, 0, raise(x, 0), 2);
        x.check(x.node(IF, 2, first, second));
        due("19 two DEFAULTS in two rows", x.completes(first) || x.completes(second), false);
        r = marked(x, RULES, 0, block(x, again(x)), 2);
        int each = loop(x, EACH, 0, r);
        x.check(each);
        due("19 RULES by a CONTINUE", x.completes(r), false);
        due("19 the CONTINUE goes to the LOOP", x.target(x.part(x.part(r, 0), 0)), each);
    }

    private static void completesTries() {
        for (int which = 0; which < 8; which++) {
            ReachFlow x = new ReachFlow();
            int body = (which & 1) == 0 ? block(x, give(x, 0)) : block(x);
            int c = (which & 2) == 0 ? block(x, give(x, 0)) : block(x);
            int ending = (which & 4) == 0 ? block(x, give(x, 0)) : block(x);
            int t = attempt(x, body, ending, c, 0);
            x.check(t);
            due("19 TRY " + which, x.completes(t), which > 4);
            due("19 the ENDING is reached", x.reached(ending), true);
        }
        ReachFlow x = new ReachFlow();
        x.exception(1);
        int t = attempt(x, block(x, give(x, 0)), NONE, block(x), 4);
        x.check(t);
        due("19 a CATCH that is not reached", x.completes(t), false);
    }

    private static void exits() {
        for (int where = 0; where < 3; where++) {
            for (int goesOn = 0; goesOn < 2; goesOn++) {
                ReachFlow x = new ReachFlow();
                int stop = leave(x);
                int body = where == 0 ? block(x, stop) : block(x, give(x, 0));
                int c = where == 1 ? block(x, stop) : block(x, give(x, 0));
                int rest = goesOn == 1 ? empty(x) : give(x, 0);
                int ending = where == 2 ? block(x, x.node(IF, 2, stop, NONE), rest) : block(x, rest);
                int t = attempt(x, body, ending, c, 0);
                int whole = loop(x, WHILE, 1, t);
                x.check(whole);
                due("19 BREAK in " + where + " of a TRY", x.completes(whole), where == 2 || goesOn == 1);
            }
        }
        ReachFlow x = new ReachFlow();
        int stop = leave(x);
        int inner = loop(x, WHILE, 1, stop);
        int t = attempt(x, block(x, inner), block(x, give(x, 0)));
        x.check(t);
        due("19 a TRY around the TARGET is not asked", x.completes(inner), true);
        due("19 BODY", x.completes(x.part(t, 0)), true);
        x = new ReachFlow();
        stop = leave(x);
        x.check(loop(x, WHILE, 1, block(x, give(x, 0), stop)));
        due("19 a BREAK that is not reached", x.completes(x.of(3)), false);
    }

    // ---- 20, 21

    private static void can() {
        ReachFlow x = new ReachFlow();
        due("20 no node", x.can(0, 0), BAD);
        int a = act(x, 1);
        int body = block(x, a);
        int c = block(x, raise(x, 3));
        int t = attempt(x, body, NONE, c, 2);
        x.check(t);
        due("20 kind 4", x.can(a, 4), BAD);
        due("20 kind -1", x.can(a, -1), BAD);
        due("20 node -1", x.can(-1, 0), BAD);
        due("20 ACT", x.can(a, 1), 1);
        due("20 not what is below", x.can(a, 2), 0);
        due("20 not what is above", x.can(a, 0), 0);
        due("20 BODY", x.can(body, 1), 1);
        due("20 a CATCH of what is below does not take it", x.can(t, 1), 1);
        due("20 what a CATCH throws", x.can(t, 3), 1);
        due("20 not in it", x.can(empty(x), 1), 0);
        canThroughEndings();
    }

    private static void canThroughEndings() {
        for (int goesOn = 0; goesOn < 2; goesOn++) {
            ReachFlow x = new ReachFlow();
            x.exception(1);
            x.exception(1);
            int body = block(x, act(x, 2), act(x, 4));
            int c = block(x, act(x, 3));
            int ending = block(x, act(x, 5), goesOn == 1 ? empty(x) : give(x, 0));
            int t = attempt(x, body, ending, c, 2);
            x.check(t);
            due("20 caught", x.can(t, 2), 0);
            due("20 from the BODY", x.can(t, 4), goesOn);
            due("20 from a CATCH", x.can(t, 3), goesOn);
            due("20 from the ENDING", x.can(t, 5), 1);
        }
        ReachFlow x = new ReachFlow();
        int lost = act(x, 1);
        int whole = loop(x, WHILE, 0, lost);
        x.check(whole);
        due("20 not reached", x.can(lost, 1), 0);
        due("20 and not through it", x.can(whole, 1), 0);
    }

    private static void target() {
        ReachFlow x = new ReachFlow();
        due("21 no node", x.target(0), BAD);
        due("21 -1", x.target(-1), BAD);
        int stop = leave(x);
        due("21 none looked at", x.target(stop), NONE);
        int next = again(x);
        int s = marked(x, SWITCH, 0, stop, 1, next, 1);
        int byName = x.jump(0, 1);
        int onByName = x.jump(1, 1);
        int astray = x.jump(1, 2);
        int w = loop(x, WHILE, 2, x.node(IF, 2, s, x.node(IF, 2, byName, x.node(IF, 2, onByName, astray))));
        int inner = x.label(1, w);
        int outer = x.label(1, inner);
        int around = x.label(2, block(x, outer));
        x.check(around);
        due("21 BREAK of a SWITCH", x.target(stop), s);
        due("21 CONTINUE of a LOOP", x.target(next), w);
        due("21 BREAK to the nearest LABEL", x.target(byName), inner);
        due("21 CONTINUE to its part", x.target(onByName), w);
        due("21 CONTINUE to no LOOP", x.target(astray), NONE);
        due("21 another NODE", x.target(w), NONE);
        x.check(w);
        due("21 LABELS outside are not looked at", x.target(byName), NONE);
        due("21 nor for CONTINUE", x.target(onByName), NONE);
        due("21 the ROOT is", x.target(next), w);
        x.check(s);
        due("21 no LOOP in it", x.target(next), NONE);
        due("21 the SWITCH is", x.target(stop), s);
        x.clear();
        int on = x.jump(1, 0);
        int two = x.label(0, x.label(1, loop(x, DO, 2, on)));
        x.check(two);
        due("21 a LABEL between", x.target(on), NONE);
        deepTargets();
    }

    private static void deepTargets() {
        for (int sort = 0; sort < 2; sort++) {
            ReachFlow x = new ReachFlow();
            int jump = x.jump(0, sort == 0 ? NONE : 5);
            int whole = jump;
            for (int i = 1; i < 59; i++) {
                whole = x.node(IF, 2, whole, NONE);
            }
            whole = sort == 0 ? loop(x, WHILE, 1, whole) : x.label(5, whole);
            due("21 the deepest tree", whole, 59);
            due("21 no FAULT in it", x.check(whole), 0);
            due("21 TARGET", x.target(jump), whole);
            due("21 BREAK goes all the way", x.ends(x.part(whole, 0), 2, whole), 1);
            due("21 and ends it", x.completes(whole), true);
        }
    }

    // ---- 22, 23: WALKS

    private static void walked() {
        ReachFlow x = new ReachFlow();
        due("22 no node", x.walked(0), false);
        due("22 -1", x.walked(-1), false);
        int stray = leave(x);
        int after = empty(x);
        int i = x.node(IF, 2, stray, NONE);
        int whole = block(x, i, after);
        x.check(whole);
        due("22 a jump without a TARGET", x.walked(stray), true);
        due("22 past it", x.walked(after), true);
        for (int kind = 0; kind < 2; kind++) {
            int ending = block(x);
            x.check(attempt(x, block(x, x.jump(kind, NONE)), ending));
            due("22 an ENDING behind a jump without a TARGET", x.walked(ending), false);
        }
        int a = empty(x);
        int b = empty(x);
        x.check(x.node(IF, 0, a, b));
        due("22 IF 0", x.walked(a), false);
        due("22 IF 0, second", x.walked(b), true);
        a = empty(x);
        b = empty(x);
        x.check(x.node(IF, 1, a, b));
        due("22 IF 1", x.walked(a), true);
        due("22 IF 1, second", x.walked(b), false);
        walkedCatches();
    }

    private static void walkedCatches() {
        ReachFlow x = new ReachFlow();
        x.exception(1);
        int body = block(x, raise(x, 4));
        int c1 = block(x);
        int c2 = block(x);
        int c3 = block(x);
        int t = attempt(x, body, NONE, c1, 2, c2, 4, c3, 0);
        x.check(t);
        due("22 another KIND", x.walked(c1), false);
        due("22 the first that takes it", x.walked(c2), true);
        due("22 not the second", x.walked(c3), false);
        x = new ReachFlow();
        body = block(x, act(x, 0));
        c1 = block(x);
        c2 = block(x);
        t = attempt(x, body, NONE, c1, 2, c2, 1);
        x.check(t);
        due("22 what is BELOW comes, too", x.walked(c1), true);
        due("22 and the rest", x.walked(c2), true);
        due("22 3 goes on", x.ends(t, 4, 3), 1);
        due("22 0 goes on", x.ends(t, 4, 0), 1);
        due("22 1 does not", x.ends(t, 4, 1), 0);
    }

    private static void ends() {
        ReachFlow x = new ReachFlow();
        due("23 no node", x.ends(0, 0, 0), BAD);
        int a = act(x, 1);
        x.check(a);
        int[][] bad = {{a, 5, 0}, {a, -1, 0}, {a, 0, 1}, {a, 1, 1}, {a, 0, NONE}, {a, 2, 1}, {a, 2, -1}, {a, 3, 1},
            {a, 3, NONE}, {a, 4, 4}, {a, 4, -1}, {-1, 0, 0}, {1, 0, 0}, {HIGH, 4, 0}, {a, 4, LOW}};
        for (int[] b : bad) {
            due("23 ends " + java.util.Arrays.toString(b), x.ends(b[0], b[1], b[2]), BAD);
        }
        due("23 NORMALLY", x.ends(a, 0, 0), 1);
        due("23 RETURN", x.ends(a, 1, 0), 0);
        due("23 BREAK to no target", x.ends(a, 2, a), 0);
        due("23 KIND", x.ends(a, 4, 2), 1);
        int g = give(x, 1);
        x.check(g);
        due("23 by RETURN", x.ends(g, 1, 0), 1);
        due("23 not NORMALLY", x.ends(g, 0, 0), 0);
        int stray = leave(x);
        x.check(stray);
        due("23 in no way", x.ends(stray, 0, 0) + x.ends(stray, 2, stray) + x.ends(stray, 3, stray), 0);
        endsOfLoops();
        endsOfRows();
        endsOfTries();
    }

    private static void endsOfLoops() {
        ReachFlow x = new ReachFlow();
        int next = again(x);
        int d = loop(x, DO, 0, next);
        x.check(d);
        due("23 CONTINUE", x.ends(next, 3, d), 1);
        due("23 is no BREAK", x.ends(next, 2, d), 0);
        due("23 the DO", x.ends(d, 0, 0), 1);
        due("23 not by it", x.ends(d, 3, d), 0);
        int stop = leave(x);
        int w = loop(x, WHILE, 1, stop);
        x.check(w);
        due("23 BREAK", x.ends(stop, 2, w), 1);
        due("23 the WHILE", x.ends(w, 0, 0), 1);
        due("23 not by it", x.ends(w, 2, w), 0);
        int never = loop(x, WHILE, 0, give(x, 0));
        x.check(never);
        due("23 WHILE 0", x.ends(never, 0, 0), 1);
        due("23 WHILE 0 not by RETURN", x.ends(never, 1, 0), 0);
        int each = loop(x, EACH, 0, give(x, 0));
        x.check(each);
        due("23 EACH", x.ends(each, 0, 0), 1);
        due("23 EACH by RETURN", x.ends(each, 1, 0), 1);
        int once = loop(x, DO, 2, give(x, 0));
        x.check(once);
        due("23 DO not NORMALLY", x.ends(once, 0, 0), 0);
        int out = x.jump(1, 0);
        int inner = loop(x, WHILE, 1, out);
        int outer = loop(x, WHILE, 2, inner);
        x.check(x.label(0, outer));
        due("23 CONTINUE through a LOOP", x.ends(inner, 3, outer), 1);
        due("23 to the outer one", x.ends(outer, 3, outer), 0);
        int near = again(x);
        int far = x.jump(1, 0);
        int mixed = x.node(IF, 2, far, near);
        inner = loop(x, WHILE, 2, mixed);
        outer = loop(x, WHILE, 2, inner);
        x.check(x.label(0, outer));
        due("23 CONTINUES to both", x.ends(mixed, 3, inner) + x.ends(mixed, 3, outer), 2);
        due("23 one of them goes on", x.ends(inner, 3, outer), 1);
    }

    private static void endsOfRows() {
        ReachFlow x = new ReachFlow();
        int s = marked(x, SWITCH, 0, give(x, 0), 2, raise(x, 3), 1, empty(x), 0);
        x.check(s);
        due("23 SWITCH by RETURN", x.ends(s, 1, 0), 1);
        due("23 SWITCH by KIND", x.ends(s, 4, 3), 1);
        due("23 SWITCH not NORMALLY", x.ends(s, 0, 0), 0);
        due("23 SWITCH last one", x.walked(x.part(s, 2)), false);
        s = marked(x, SWITCH, 0, give(x, 0), 1);
        x.check(s);
        due("23 SWITCH past all", x.ends(s, 0, 0), 1);
        int stop = leave(x);
        int r = marked(x, RULES, 0, block(x, stop), 2);
        x.check(r);
        due("23 RULES by a BREAK", x.ends(r, 0, 0), 1);
        due("23 not by it", x.ends(r, 2, r), 0);
        due("23 its part is", x.ends(x.part(r, 0), 2, r), 1);
        int b = block(x, x.node(IF, 2, give(x, 0), NONE), raise(x, 2));
        x.check(b);
        due("23 BLOCK by RETURN", x.ends(b, 1, 0), 1);
        due("23 BLOCK by KIND", x.ends(b, 4, 2), 1);
        due("23 BLOCK not NORMALLY", x.ends(b, 0, 0), 0);
    }

    private static void endsOfTries() {
        ReachFlow x = new ReachFlow();
        int t = attempt(x, block(x, give(x, 0)), block(x, act(x, 3)));
        x.check(t);
        due("23 TRY by RETURN", x.ends(t, 1, 0), 1);
        due("23 TRY by its ENDING'S KIND", x.ends(t, 4, 3), 1);
        due("23 TRY not NORMALLY", x.ends(t, 0, 0), 0);
        int u = attempt(x, block(x, act(x, 1)), block(x, give(x, 1)));
        x.check(u);
        due("23 the ENDING returns", x.ends(u, 1, 0), 1);
        due("23 so NORMALLY is lost", x.ends(u, 0, 0), 0);
        due("23 and KINDS", x.ends(u, 4, 1), 0);
        int v = attempt(x, block(x, loop(x, WHILE, 1, empty(x))), block(x, give(x, 1)));
        x.check(v);
        due("23 an endless BODY", x.ends(v, 1, 0), 0);
        due("23 no walk to its ENDING", x.ends(x.part(v, 1), 1, 0), 0);
        int lost = block(x, again(x), give(x, 1));
        int each = loop(x, EACH, 0, attempt(x, lost, block(x, give(x, 1))));
        x.check(each);
        due("23 a CONTINUE that the ENDING takes", x.ends(x.part(each, 0), 3, each), 0);
        due("23 its BODY'S", x.ends(lost, 3, each), 1);
        x.clear();
        int w = attempt(x, block(x, raise(x, 2)), block(x), block(x, raise(x, 3)), 1);
        x.check(w);
        due("23 a CATCH throws", x.ends(w, 4, 3), 1);
        due("23 what was caught is gone", x.ends(w, 4, 2), 0);
        w = attempt(x, block(x, act(x, 2), act(x, 3)), NONE, block(x), 2, block(x), 3);
        x.check(w);
        due("23 both CATCHES take", x.ends(w, 4, 2) + x.ends(w, 4, 3), 0);
        due("23 both CATCHES take, by the rules", x.can(w, 2) + x.can(w, 3), 0);
        int both = x.node(IF, 2, give(x, 0), block(x, give(x, 1)));
        x.check(both);
        for (int n = x.part(both, 0); n <= both; n++) {
            due("23 RETURNS side by side", x.ends(n, 1, 0), 1);
        }
    }

    // ---- 24

    private static void member() {
        ReachFlow x = new ReachFlow();
        due("24 no node", x.member(0, 0), BAD);
        int a = empty(x);
        due("24 fine", x.member(a, 0), 0);
        int lost = empty(x);
        int w = loop(x, WHILE, 0, lost);
        due("24 result 4", x.member(w, 4), BAD);
        due("24 result -1", x.member(w, -1), BAD);
        due("24 root -1", x.member(-1, 0), BAD);
        due("24 what is refused changes nothing", x.of(3), a);
        due("24 the first FAULT", x.member(w, 1), 1);
        due("24 it is looked at", x.fault(0, 1), lost);
        int stray = leave(x);
        due("24 another FAULT", x.member(stray, 2), 2);
        due("24 a RETURN alone", x.member(give(x, 1), 0), 6);
        x.check(block(x, give(x, 1)));
        due("24 RETURNS of another ROOT do not count", x.member(a, 0), 0);
        // the BLOCK'S parts; then the answers for result 0, 1, 2, 3
        int[][] dues = {{0, 7, 0, 0}, {0, 6, 6, 0}, {6, 0, 6, 0}, {6, 6, 6, 9}, {6, 7, 6, 9}, {0, 6, 6, 0}, {0, 0, 8, 0},
            {6, 0, 6, 0}};
        for (int which = 0; which < dues.length; which++) {
            x.clear();
            int body = memberBody(x, which);
            for (int result = 0; result < 4; result++) {
                due("24 body " + which + " as " + result, x.member(body, result), dues[which][result]);
            }
            due("24 root", x.of(3), body);
        }
    }

    private static int memberBody(ReachFlow x, int which) {
        switch (which) {
            case 0:
                return block(x);
            case 1:
                return block(x, give(x, 0));
            case 2:
                return block(x, give(x, 1));
            case 3:
                return block(x, x.node(IF, 2, give(x, 1), give(x, 0)));
            case 4:
                return block(x, x.node(IF, 2, give(x, 1), NONE));
            case 5:
                return block(x, x.node(IF, 2, give(x, 0), NONE));
            case 6:
                return block(x, raise(x, 1));
            default:
                return block(x, x.node(IF, 2, give(x, 1), NONE), raise(x, 2));
        }
    }

    public static void main(String[] args) {
        newObject();
        clear();
        exception();
        node();
        jump();
        label();
        row();
        put();
        end();
        drop();
        told();
        part();
        of();
        check();
        fault();
        notes();
        note();
        reached();
        completes();
        can();
        target();
        walked();
        ends();
        member();
        System.out.println(wrong == 0 ? "all answers are as due" : wrong + " answers are not as due");
        if (wrong != 0) {
            System.exit(1);
        }
    }
}
