import java.io.IOException;
import java.nio.file.Files;
import java.nio.file.Path;
import java.util.ArrayList;
import java.util.HashSet;
import java.util.List;
import java.util.Set;
import java.util.function.IntSupplier;
import java.util.function.IntUnaryOperator;
import java.util.function.Supplier;

/**
 * A test for each sentence of the document that names a boundary case, in the document's order. A test bears the name
 * of its place in the document ("Terms", "Promise 7") and the sentence's own words, which are looked up there, too.
 * No object is used for more than 512 calls.
 */
public final class BoundaryTests {
    private static final int NONE = ReachFlow.NONE, BAD = ReachFlow.BAD, FULL = ReachFlow.FULL, NO = ReachFlow.NO;
    private static final int EMPTY = 0, ACT = 1, THROW = 2, RETURN = 3, IF = 4, WHILE = 5, DO = 6, FOR = 7, EACH = 8,
        LOCK = 9;
    private static final int BLOCK = 0, SWITCH = 1, RULES = 2, TRY = 3;
    private static final int LOW = Integer.MIN_VALUE, HIGH = Integer.MAX_VALUE;
    private static final Path DOCUMENT = Path.of("../shared/DOC.md");

    private static String document = "";
    private static String now = "";
    private static int sentences = 0;
    private static final Set<String> places = new HashSet<>();
    private static int wrong = 0;
    private static ReachFlow x = new ReachFlow();

    // ---- what a test is

    private static void sentence(String place, String words, Runnable test) {
        sentences++;
        places.add(place);
        now = place + ", '" + words + "': ";
        if (!document.isEmpty() && !placeOf(place).contains(words)) {
            say("these words do not stand there");
        }
        start();
        try {
            test.run();
        } catch (RuntimeException | StackOverflowError thrown) {
            say("threw " + thrown);
        }
    }

    private static String placeOf(String place) {
        int first = document.indexOf("## Promise 1:");
        if (place.equals("Terms")) {
            return document.substring(0, first);
        }
        int from = document.indexOf("## " + place + ":");
        int to = document.indexOf("## ", from + 3);
        return from < 0 ? "" : document.substring(from, to < 0 ? document.length() : to);
    }

    private static void say(String what) {
        wrong++;
        System.out.println(now + what);
    }

    private static void due(String call, long got, long want) {
        if (got != want) {
            say(call + " answered " + got + ", due is " + want);
        }
    }

    private static void due(String call, boolean got, boolean want) {
        due(call, got ? 1 : 0, want ? 1 : 0);
    }

    private static void due(String call, String got, String want) {
        if (!got.equals(want)) {
            say(call + " are '" + got + "', due are '" + want + "'");
        }
    }

    // ---- refusals: the answer, and that all else is as it would be without the call

    private static void start() {
        x = new ReachFlow();
    }

    private static void anew(Runnable made) {
        start();
        made.run();
    }

    private static void refused(String call, int answer, Runnable made, IntSupplier asked) {
        anew(made);
        due(call, asked.getAsInt(), answer);
        changesNothing(call, made, asked);
    }

    private static void changesNothing(String call, Runnable made, IntSupplier asked) {
        for (Supplier<List<Integer>> probe : PROBES) {
            anew(made);
            List<Integer> without = probe.get();
            anew(made);
            asked.getAsInt();
            if (!probe.get().equals(without)) {
                say(call + " changes something");
                return;
            }
        }
    }

    /** Numbers out of an argument's bounds: the nearest on each side, the farthest, and those that wrap around. */
    private static List<Integer> outside(int first, int last) {
        int[] tried = {first - 1, first - 2, last + 1, last + 2, LOW, HIGH, first + 32, last + 32, first + 64, last + 64,
            first + 256, first + 65536, LOW + Math.abs(first), -last - 1, ~first};
        List<Integer> out = new ArrayList<>();
        for (int n : tried) {
            if ((n < first || n > last) && !out.contains(n)) {
                out.add(n);
            }
        }
        return out;
    }

    private static void refusedOutside(String call, int first, int last, Runnable made, IntUnaryOperator asked) {
        for (int n : outside(first, last)) {
            refused(call.replace("?", "" + n), BAD, made, () -> asked.applyAsInt(n));
        }
    }

    private static void answeredAt(String call, Runnable made, IntUnaryOperator asked, int answer, int... allowed) {
        for (int n : allowed) {
            anew(made);
            due(call.replace("?", "" + n), asked.applyAsInt(n), answer);
        }
    }

    private static final List<Supplier<List<Integer>>> PROBES = probes();

    private static List<Supplier<List<Integer>>> probes() {
        List<Supplier<List<Integer>>> all = new ArrayList<>();
        all.add(BoundaryTests::askLists);
        all.add(BoundaryTests::askWhatIsFree);
        all.add(BoundaryTests::askRow);
        all.add(BoundaryTests::askKindOrder);
        for (int low = 0; low < 60; low += 20) {
            int from = low;
            all.add(() -> askTree(from));
            all.add(() -> askFlow(from));
            all.add(() -> askKinds(from));
        }
        return all;
    }

    private static List<Integer> askLists() {
        List<Integer> all = new ArrayList<>(List.of(x.of(0), x.of(1), x.of(2), x.of(3), x.notes()));
        for (int i = 0; i < 62; i++) {
            all.addAll(List.of(x.fault(i, 0), x.fault(i, 1), x.note(i)));
        }
        return all;
    }

    private static List<Integer> askWhatIsFree() {
        List<Integer> all = new ArrayList<>(List.of(x.drop()));
        for (int n = 0; n < 60; n++) {
            all.add(x.label(0, n));
        }
        all.addAll(List.of(x.row(BLOCK), x.exception(0), x.clear()));
        return all;
    }

    private static List<Integer> askRow() {
        List<Integer> all = new ArrayList<>();
        for (int n = 0; n < 25; n++) {
            all.addAll(List.of(x.put(n, 2), x.put(n, 1), x.put(n, 0), x.put(n, NONE)));
        }
        all.addAll(List.of(x.of(2), x.end(2), x.end(0), x.end(1), x.end(NONE)));
        int last = x.of(0) - 1;
        all.addAll(List.of(x.check(last), x.told(last, 0), x.completes(last) ? 1 : 0, x.ends(last, 0, 0)));
        return all;
    }

    private static List<Integer> askKindOrder() {
        List<Integer> all = new ArrayList<>();
        for (int k = 0; k < 12; k++) {
            int thrower = x.node(THROW, 0, k, NONE);
            all.add(x.check(thrower));
            for (int j = 0; j < 12; j++) {
                all.add(x.ends(thrower, 4, j));
            }
        }
        return all;
    }

    private static List<Integer> askTree(int from) {
        List<Integer> all = new ArrayList<>();
        for (int n = from; n < from + 20; n++) {
            for (int what = 0; what < 5; what++) {
                all.add(x.told(n, what));
            }
            for (int i = 0; i < 4; i++) {
                all.add(x.part(n, i));
            }
        }
        return all;
    }

    private static List<Integer> askFlow(int from) {
        List<Integer> all = new ArrayList<>();
        int root = x.of(3);
        for (int n = from; n < from + 20; n++) {
            all.add((x.reached(n) ? 1 : 0) + (x.completes(n) ? 2 : 0) + (x.walked(n) ? 4 : 0));
            all.addAll(List.of(x.target(n), x.ends(n, 0, 0), x.ends(n, 1, 0), x.ends(n, 2, root), x.ends(n, 3, root)));
        }
        return all;
    }

    private static List<Integer> askKinds(int from) {
        List<Integer> all = new ArrayList<>();
        for (int n = from; n < from + 20; n++) {
            for (int k = 0; k < 5; k++) {
                all.addAll(List.of(x.can(n, k), x.ends(n, 4, k)));
            }
        }
        return all;
    }

    // ---- short ways to make NODES

    private static int empty() {
        return x.node(EMPTY, 0, NONE, NONE);
    }

    private static int act(int kind) {
        return x.node(ACT, 0, kind, NONE);
    }

    private static int raise(int kind) {
        return x.node(THROW, 0, kind, NONE);
    }

    private static int give(int value) {
        return x.node(RETURN, 0, value, NONE);
    }

    private static int either(int test, int part, int second) {
        return x.node(IF, test, part, second);
    }

    private static int loop(int sort, int test, int part) {
        return x.node(sort, test, part, NONE);
    }

    private static int lock(int part) {
        return x.node(LOCK, 0, part, NONE);
    }

    private static int leave() {
        return x.jump(0, NONE);
    }

    private static int again() {
        return x.jump(1, NONE);
    }

    private static int block(int... parts) {
        x.row(BLOCK);
        for (int part : parts) {
            x.put(part, 0);
        }
        return x.end(0);
    }

    /** A row of parts and MARKS by turns, then the MARK of its end. */
    private static int marked(int kind, int endMark, int... partsAndMarks) {
        x.row(kind);
        for (int i = 0; i + 1 < partsAndMarks.length; i += 2) {
            x.put(partsAndMarks[i], partsAndMarks[i + 1]);
        }
        return x.end(endMark);
    }

    /** THE BODY, THE ENDING or NONE, then CATCHES and their KINDS by turns. */
    private static int attempt(int body, int ending, int... catchesAndKinds) {
        x.row(TRY);
        x.put(body, NONE);
        for (int i = 0; i + 1 < catchesAndKinds.length; i += 2) {
            x.put(catchesAndKinds[i], catchesAndKinds[i + 1]);
        }
        return x.end(ending);
    }

    private static void fill(int nodes) {
        for (int n = x.of(0); n < nodes; n++) {
            empty();
        }
    }

    // ---- short ways to ask

    private static void look(int root) {
        if (x.check(root) < 0) {
            say("the test looks at no NODE");
        }
    }

    private static void reached(boolean want, int... nodes) {
        for (int n : nodes) {
            due("reached(" + n + ")", x.reached(n), want);
        }
    }

    private static void completes(boolean want, int... nodes) {
        for (int n : nodes) {
            due("completes(" + n + ")", x.completes(n), want);
        }
    }

    private static void walked(boolean want, int... nodes) {
        for (int n : nodes) {
            due("walked(" + n + ")", x.walked(n), want);
        }
    }

    /** A ROOT is looked at, and it COMPLETES or not. */
    private static void completesAsRoot(boolean want, int root) {
        look(root);
        completes(want, root);
    }

    /** All ways in which a NODE is ended: N, R, B and C with a TARGET, K with a KIND. */
    private static void ended(int n, String want) {
        StringBuilder ways = new StringBuilder();
        addIf(ways, x.ends(n, 0, 0), "N");
        addIf(ways, x.ends(n, 1, 0), "R");
        int nodes = x.of(0);
        for (int how = 2; how < 4; how++) {
            for (int goal = 0; goal < nodes; goal++) {
                addIf(ways, x.ends(n, how, goal), (how == 2 ? "B" : "C") + goal);
            }
        }
        int kinds = x.of(1);
        for (int k = 0; k < kinds; k++) {
            addIf(ways, x.ends(n, 4, k), "K" + k);
        }
        due("the ends of " + n, ways.toString().trim(), want);
    }

    private static void addIf(StringBuilder ways, int is, String way) {
        if (is == 1) {
            ways.append(way).append(' ');
        }
    }

    private static void endedAsRoot(int root, String want) {
        look(root);
        ended(root, want);
    }

    private static void throwing(int n, String want) {
        StringBuilder all = new StringBuilder();
        int kinds = x.of(1);
        for (int k = 0; k < kinds; k++) {
            addIf(all, x.can(n, k), "" + k);
        }
        due("what " + n + " CAN THROW", all.toString().trim(), want);
    }

    /** FAULTS of a ROOT: which and where by turns. */
    private static void faults(int root, int... sortsAndNodes) {
        due("check(" + root + ")", x.check(root), sortsAndNodes.length / 2);
        for (int i = 0; 2 * i + 1 < sortsAndNodes.length; i++) {
            due("fault(" + i + ", 0)", x.fault(i, 0), sortsAndNodes[2 * i]);
            due("fault(" + i + ", 1)", x.fault(i, 1), sortsAndNodes[2 * i + 1]);
        }
        due("no FAULT more", x.fault(sortsAndNodes.length / 2, 0), BAD);
    }

    private static void notes(int root, int... nodes) {
        look(root);
        due("notes()", x.notes(), nodes.length);
        for (int i = 0; i < nodes.length; i++) {
            due("note(" + i + ")", x.note(i), nodes[i]);
        }
        due("no NOTE more", x.note(nodes.length), BAD);
    }

    /** A NODE of any SORT, with the parts that it needs. */
    private static int ofSort(int sort) {
        switch (sort) {
            case EMPTY:
                return empty();
            case ACT:
                return act(NONE);
            case THROW:
                return raise(1);
            case RETURN:
                return give(0);
            case LOCK:
                return lock(block());
            case 10:
            case 11:
                return x.jump(sort - 10, NONE);
            case 12:
                return x.label(0, empty());
            case 16:
                return attempt(block(), block());
            default:
                return sort > 12 ? marked(sort - 13, 0) : x.node(sort, 0, empty(), NONE);
        }
    }

    // ======== What it is, the public face

    private static void objects() {
        sentence("Terms", "An object is used for at most 512 calls after it has been made", () -> {
            for (int call = 1; call < 60; call++) {
                due("call " + call, empty(), call - 1);
            }
            for (int call = 60; call < 512; call++) {
                due("call " + call, x.check(call % 59), 0);
            }
            due("call 512", x.label(5, 58), 59);
        });
        sentence("Terms", "public static final int NONE = -1, BAD = -2, FULL = -3, NO = -4;", () -> {
            due("NONE", ReachFlow.NONE, -1);
            due("BAD", ReachFlow.BAD, -2);
            due("FULL", ReachFlow.FULL, -3);
            due("NO", ReachFlow.NO, -4);
        });
    }

    // ======== Terms 1: NODES, SORTS, KINDS, THE TARGET

    private static void nodesAndParts() {
        sentence("Terms", "numbered 0, 1, .. as they are made", () -> {
            due("node()", empty(), 0);
            due("jump()", leave(), 1);
            due("label()", x.label(0, 0), 2);
            due("end()", block(1, 2), 3);
            due("node() with a part", loop(WHILE, 2, 3), 4);
        });
        sentence("Terms", "60 at most.", () -> {
            fill(59);
            due("the last one", empty(), 59);
            due("of(0)", x.of(0), 60);
            oneNodeTooMany();
        });
        sentence("Terms", "The parts of one are made before it", () -> {
            Runnable one = () -> block();
            refused("node(5, 2, 1, -1)", BAD, one, () -> loop(WHILE, 2, 1));
            refused("node(4, 2, 0, 1)", BAD, one, () -> either(2, 0, 1));
            refused("label(0, 1)", BAD, one, () -> x.label(0, 1));
            refused("put(1, 0)", BAD, () -> emptyRow(BLOCK), () -> x.put(1, 0));
            refused("end(1)", BAD, () -> rowOf(TRY, block(), NONE), () -> x.end(1));
        });
        sentence("Terms", "a NODE that is part of none is FREE", () -> {
            for (int sort = 0; sort <= 16; sort++) {
                start();
                int n = ofSort(sort);
                due("a part of SORT " + sort, x.label(1, n), n + 1);
            }
        });
        sentence("Terms", "FREE ones alone become parts.", BoundaryTests::takenOnes);
    }

    /** A BLOCK as NODE 0, and a row that has no part yet. */
    private static void emptyRow(int kind) {
        block();
        x.row(kind);
    }

    private static void rowOf(int kind, int part, int mark) {
        x.row(kind);
        x.put(part, mark);
    }

    private static void oneNodeTooMany() {
        Runnable full = () -> {
            block();
            fill(60);
        };
        refused("node(0, 0, -1, -1)", FULL, full, BoundaryTests::empty);
        refused("node(4, 2, 0, 1)", FULL, full, () -> either(2, 0, 1));
        refused("node(9, 0, 0, -1)", FULL, full, () -> lock(0));
        refused("jump(1, 5)", FULL, full, () -> x.jump(1, 5));
        refused("label(5, 59)", FULL, full, () -> x.label(5, 59));
        for (int kind = BLOCK; kind < TRY; kind++) {
            int of = kind;
            refused("end(0) of kind " + kind, FULL, () -> {
                full.run();
                rowOf(of, 0, of == BLOCK ? 0 : 2);
            }, () -> x.end(0));
        }
        refused("end(2) of a TRY", FULL, () -> {
            block();
            block();
            block();
            fill(60);
            rowOf(TRY, 0, NONE);
            x.put(1, 2);
        }, () -> x.end(2));
    }

    private static void takenOnes() {
        partsOf(() -> either(2, 0, 3));
        partsOf(() -> either(2, 3, 0));
        for (int sort = WHILE; sort <= LOCK; sort++) {
            int of = sort;
            partsOf(() -> loop(of, 0, 0));
        }
        partsOf(() -> x.label(0, 0));
        for (int kind = BLOCK; kind < TRY; kind++) {
            int of = kind;
            partsOf(() -> marked(of, 0, 0, of == BLOCK ? 0 : 1));
        }
        partsOf(() -> attempt(0, 3));
        partsOf(() -> attempt(2, NONE, 0, 1));
        partsOf(() -> attempt(2, 0));
        Runnable inRow = () -> {
            fourBlocks();
            rowOf(TRY, 0, NONE);
        };
        madeOfTaken(inRow);
        refused("put(0, 2) again, as a CATCH", BAD, inRow, () -> x.put(0, 2));
        refused("end(0), the ENDING is the BODY", BAD, inRow, () -> x.end(0));
        refused("put(0, 0) again", BAD, () -> rowOf(BLOCK, block(), 0), () -> x.put(0, 0));
    }

    private static void fourBlocks() {
        for (int i = 0; i < 4; i++) {
            block();
        }
    }

    /** NODE 0 has become part of one, so that it can be part of no other. */
    private static void partsOf(Runnable taking) {
        Runnable made = () -> {
            fourBlocks();
            taking.run();
        };
        madeOfTaken(made);
        for (int kind = BLOCK; kind <= TRY; kind++) {
            int of = kind;
            refused("put(0, ..) of kind " + kind, BAD, () -> {
                made.run();
                x.row(of);
            }, () -> x.put(0, of == TRY ? NONE : of == BLOCK ? 0 : 1));
        }
        Runnable tried = () -> {
            made.run();
            rowOf(TRY, 1, NONE);
        };
        refused("put(0, 2) as a CATCH", BAD, tried, () -> x.put(0, 2));
        refused("end(0) as the ENDING", BAD, tried, () -> x.end(0));
    }

    private static void madeOfTaken(Runnable made) {
        for (int sort = IF; sort <= LOCK; sort++) {
            int of = sort;
            refused("node(" + of + ", 0, 0, -1)", BAD, made, () -> loop(of, 0, 0));
        }
        refused("node(4, 0, 1, 0)", BAD, made, () -> either(0, 1, 0));
        refused("node(4, 0, 0, 1)", BAD, made, () -> either(0, 0, 1));
        refused("label(0, 0)", BAD, made, () -> x.label(0, 0));
    }

    private static void testsAndNames() {
        sentence("Terms", "1 ACT: it may throw a KIND of exceptions, or none.", () -> {
            endedAsRoot(act(NONE), "N");
            throwing(0, "");
            endedAsRoot(act(0), "N K0 K1 K2 K3");
            throwing(1, "0");
            endedAsRoot(act(3), "N K3");
            throwing(2, "3");
        });
        sentence("Terms", "2 THROW of a KIND.", () -> {
            refused("node(2, 0, -1, -1)", BAD, () -> { }, () -> raise(NONE));
            start();
            endedAsRoot(raise(0), "K0 K1 K2 K3");
            endedAsRoot(raise(3), "K3");
        });
        sentence("Terms", "3 RETURN with a value (1) or without (0).", () -> {
            due("with one", x.member(give(1), 1), 0);
            due("without one", x.member(give(0), 0), 0);
            refused("node(3, 0, -1, -1)", BAD, () -> { }, () -> give(NONE));
            refused("node(3, 0, 2, -1)", BAD, () -> { }, () -> give(2));
        });
        sentence("Terms", "4 IF: a TEST, a part, a second one or none.", () -> {
            due("one part", either(2, empty(), NONE), 1);
            due("two parts", either(2, empty(), empty()), 4);
            refused("no part", BAD, BoundaryTests::empty, () -> either(2, NONE, NONE));
            refused("a second one alone", BAD, BoundaryTests::empty, () -> either(2, NONE, 0));
            refused("the same one twice", BAD, BoundaryTests::empty, () -> either(2, 0, 0));
        });
        sentence("Terms", "5 WHILE, 6 DO, 7 FOR: a TEST, a part. 8 EACH: a part.", () -> {
            for (int sort = WHILE; sort <= EACH; sort++) {
                int of = sort;
                answeredAt("node(" + sort + ", 0, ?, -1)", BoundaryTests::empty, a -> loop(of, 0, a), 1, 0);
                refused("SORT " + sort + " without a part", BAD, BoundaryTests::empty, () -> loop(of, 0, NONE));
                refused("SORT " + sort + " of two parts", BAD, BoundaryTests::fourBlocks, () -> x.node(of, 0, 0, 1));
            }
        });
        sentence("Terms", "A TEST is 0 (known to be false), 1 (known to be true), 2 OPEN", () -> {
            for (int sort = IF; sort <= DO; sort++) {
                int of = sort;
                answeredAt("node(" + of + ", ?, 0, -1)", BoundaryTests::empty, n -> loop(of, n, 0), 1, 0, 1, 2);
                refusedOutside("node(" + of + ", ?, 0, -1)", 0, 2, BoundaryTests::empty, n -> loop(of, n, 0));
            }
        });
        sentence("Terms", "of FOR 3, too (there is none: it counts as 1).", () -> {
            answeredAt("node(7, ?, 0, -1)", BoundaryTests::empty, n -> loop(FOR, n, 0), 1, 0, 1, 2, 3);
            refusedOutside("node(7, ?, 0, -1)", 0, 3, BoundaryTests::empty, n -> loop(FOR, n, 0));
            start();
            int endless = loop(FOR, 3, act(2));
            completesAsRoot(false, endless);
            reached(true, x.part(endless, 0));
            walked(true, x.part(endless, 0));
            ended(endless, "K2");
            int left = loop(FOR, 3, leave());
            completesAsRoot(true, left);
            ended(left, "N");
        });
        sentence("Terms", "10 BREAK, 11 CONTINUE: with a NAME 0 .. 5, or without.", () -> {
            for (int kind = 0; kind < 2; kind++) {
                int of = kind;
                answeredAt("jump(" + of + ", ?)", () -> { }, n -> x.jump(of, n), 0, NONE, 0, 1, 2, 3, 4, 5);
                refusedOutside("jump(" + of + ", ?)", NONE, 5, () -> { }, n -> x.jump(of, n));
            }
        });
        sentence("Terms", "12 LABEL: a NAME, a part.", () -> {
            answeredAt("label(?, 0)", BoundaryTests::empty, n -> x.label(n, 0), 1, 0, 1, 2, 3, 4, 5);
            refusedOutside("label(?, 0)", 0, 5, BoundaryTests::empty, n -> x.label(n, 0));
        });
        sentence("Terms", "9 LOCK: a part, a BLOCK.", () -> {
            for (int sort = 0; sort <= 16; sort++) {
                int of = sort;
                start();
                int n = ofSort(sort);
                due("LOCK of SORT " + sort, lock(n), sort == 13 ? n + 1 : BAD);
                if (sort != 13) {
                    refused("LOCK of SORT " + sort, BAD, () -> ofSort(of), () -> lock(n));
                }
            }
        });
    }

    private static void rows() {
        sentence("Terms", "13 BLOCK: a row of parts, none too.", () -> {
            due("a BLOCK of none", block(), 0);
            due("its parts", x.told(0, 2), 0);
            fullRow(BLOCK, 0, 0);
        });
        sentence("Terms", "14 SWITCH: a row of parts, none too", () -> {
            due("a SWITCH of none", marked(SWITCH, 0), 0);
            due("its parts", x.told(0, 2), 0);
            fullRow(SWITCH, 1, 0);
        });
        sentence("Terms", "0 none (not the first one), 1 a case stands ahead of it, 2 the DEFAULT does", () -> {
            Runnable first = () -> emptyRow(SWITCH);
            Runnable second = () -> {
                empty();
                rowOf(SWITCH, block(), 1);
            };
            answeredAt("put(0, ?) first", first, n -> x.put(0, n), 1, 1, 2);
            refusedOutside("put(0, ?) first", 1, 2, first, n -> x.put(0, n));
            answeredAt("put(0, ?) second", second, n -> x.put(0, n), 2, 0, 1, 2);
            refusedOutside("put(0, ?) second", 0, 2, second, n -> x.put(0, n));
        });
        sentence("Terms", "its end has a MARK as well.", () -> {
            Runnable made = () -> rowOf(SWITCH, empty(), 1);
            answeredAt("end(?)", made, n -> x.end(n), 1, 0, 1, 2);
            refusedOutside("end(?)", 0, 2, made, n -> x.end(n));
            refusedOutside("end(?) of none", 0, 2, () -> x.row(SWITCH), n -> x.end(n));
        });
        sentence("Terms", "15 RULES: a row of parts, none too", () -> {
            due("RULES of none", marked(RULES, 0), 0);
            due("their parts", x.told(0, 2), 0);
            start();
            for (int i = 0; i < 59; i++) {
                act(NONE);
            }
            x.row(RULES);
            for (int i = 0; i < 59; i++) {
                due("put(" + i + ", 1)", x.put(i, 1), i + 1);
            }
            due("RULES of 59", x.end(0), 59);
            due("their parts", x.told(59, 2), 59);
        });
        sentence("Terms", "BLOCKS, ACTS or THROWS, each with a MARK 1 or 2.", () -> {
            for (int sort = 0; sort <= 16; sort++) {
                rulesOf(sort);
            }
            Runnable second = () -> {
                act(NONE);
                rowOf(RULES, act(NONE), 1);
            };
            answeredAt("put(0, ?) first", () -> emptyRow(RULES), n -> x.put(0, n), 1, 1, 2);
            refusedOutside("put(0, ?) first", 1, 2, () -> emptyRow(RULES), n -> x.put(0, n));
            answeredAt("put(0, ?) second", second, n -> x.put(0, n), 2, 1, 2);
            refusedOutside("put(0, ?) second", 1, 2, second, n -> x.put(0, n));
        });
        sentence("Terms", "A SWITCH, RULES have one DEFAULT at most.", BoundaryTests::oneDefault);
        sentence("Terms", "16 TRY: a BLOCK, THE BODY; CATCHES, BLOCKS, each of a KIND; then perhaps THE ENDING, a BLOCK",
            () -> {
                for (int sort = 0; sort <= 16; sort++) {
                    tryOf(sort);
                }
                fullTry();
            });
        sentence("Terms", "one CATCH or THE ENDING at least.", () -> {
            refused("end(-1)", BAD, () -> rowOf(TRY, block(), NONE), () -> x.end(NONE));
            start();
            due("one CATCH", attempt(block(), NONE, block(), 0), 2);
            due("THE ENDING", attempt(block(), block()), 5);
            due("both", attempt(block(), block(), block(), 0), 9);
        });
    }

    /** As many parts as can be: all NODES but the row itself. */
    private static void fullRow(int kind, int firstMark, int mark) {
        start();
        fill(59);
        x.row(kind);
        for (int i = 0; i < 59; i++) {
            due("put(" + i + ")", x.put(i, i == 0 ? firstMark : mark), i + 1);
        }
        due("a row of 59", x.end(0), 59);
        due("its parts", x.told(59, 2), 59);
        due("its last part", x.part(59, 58), 58);
        look(59);
        reached(true, 0, 58, 59);
        completes(true, 0, 58, 59);
        walked(true, 0, 58, 59);
    }

    private static void rulesOf(int sort) {
        Runnable made = () -> {
            ofSort(sort);
            x.row(RULES);
        };
        start();
        int n = ofSort(sort);
        if (sort == ACT || sort == THROW || sort == 13) {
            answeredAt("put(" + n + ", ?) of SORT " + sort, made, mark -> x.put(n, mark), 1, 1, 2);
        } else {
            refused("put(" + n + ", 1) of SORT " + sort, BAD, made, () -> x.put(n, 1));
        }
    }

    private static void oneDefault() {
        for (int kind = SWITCH; kind <= RULES; kind++) {
            int of = kind;
            refused("a later put(.., 2) of kind " + kind, BAD, () -> {
                act(NONE);
                act(NONE);
                rowOf(of, act(NONE), 2);
                x.put(1, 1);
            }, () -> x.put(0, 2));
            refused("a second put(.., 2) of kind " + kind, BAD, () -> {
                act(NONE);
                rowOf(of, act(NONE), 2);
            }, () -> x.put(0, 2));
        }
        refused("end(2) behind a DEFAULT", BAD, () -> rowOf(SWITCH, empty(), 2), () -> x.end(2));
        start();
        rowOf(SWITCH, empty(), 2);
        due("end(1) behind a DEFAULT", x.end(1), 1);
        rowOf(SWITCH, empty(), 2);
        due("another SWITCH has its own", x.end(0), 3);
        due("and its end, too", marked(SWITCH, 2), 4);
        due("and RULES theirs", marked(RULES, 0, act(NONE), 2), 6);
    }

    private static void tryOf(int sort) {
        boolean fits = sort == 13;
        start();
        int n = ofSort(sort);
        Runnable asBody = () -> {
            ofSort(sort);
            x.row(TRY);
        };
        Runnable behindBody = () -> {
            ofSort(sort);
            rowOf(TRY, block(), NONE);
        };
        if (fits) {
            answeredAt("THE BODY", asBody, mark -> x.put(n, mark), 1, NONE);
            answeredAt("a CATCH of ?", behindBody, mark -> x.put(n, mark), 2, 0, 3);
            answeredAt("THE ENDING", behindBody, ending -> x.end(ending), 2, n);
        } else {
            refused("THE BODY of SORT " + sort, BAD, asBody, () -> x.put(n, NONE));
            refused("a CATCH of SORT " + sort, BAD, behindBody, () -> x.put(n, 0));
            refused("THE ENDING of SORT " + sort, BAD, behindBody, () -> x.end(n));
        }
    }

    private static void fullTry() {
        start();
        for (int i = 0; i < 59; i++) {
            block();
        }
        rowOf(TRY, 0, NONE);
        for (int i = 1; i < 58; i++) {
            due("CATCH " + i, x.put(i, 2), i + 1);
        }
        due("a TRY of 59", x.end(58), 59);
        due("its parts", x.told(59, 2), 59);
        due("its last part", x.part(59, 58), 58);
        due("all CATCHES but one come too late", x.check(59), 56);
    }

    private static void kindsOfExceptions() {
        sentence("Terms", "LOOPS are WHILE, DO, FOR, EACH.", () -> {
            for (int sort = WHILE; sort <= EACH; sort++) {
                int next = again();
                int whole = loop(sort, sort == EACH ? 0 : 2, next);
                look(whole);
                due("a CONTINUE in SORT " + sort, x.target(next), whole);
            }
            for (int sort : new int[] {IF, LOCK, 12, 13, 14, 15, 16}) {
                int next = again();
                look(around(sort, next));
                due("a CONTINUE in SORT " + sort, x.target(next), NONE);
            }
        });
        sentence("Terms", "KINDS of exceptions are 0 .. 11", () -> {
            for (int k = 4; k < 12; k++) {
                due("exception(0)", x.exception(0), k);
            }
            due("the last KIND", raise(11), 0);
            due("none behind it", raise(12), BAD);
            due("none ahead of 0", raise(NONE), BAD);
        });
        sentence("Terms", "0 ALL; 1 stands right below 0, 2 right below 1, 3 right below 0", () -> {
            String[] ends = {"K0 K1 K2 K3", "K1 K2", "K2", "K3"};
            for (int k = 0; k < 4; k++) {
                endedAsRoot(raise(k), ends[k]);
            }
        });
        sentence("Terms", "others are made, each right below one that is there.", () -> {
            answeredAt("exception(?)", () -> { }, n -> x.exception(n), 4, 0, 1, 2, 3);
            refusedOutside("exception(?)", 0, 3, () -> { }, n -> x.exception(n));
            refusedOutside("exception(?) of 5", 0, 4, () -> x.exception(0), n -> x.exception(n));
        });
        sentence("Terms", "A KIND is BELOW itself, and BELOW what the KIND above it is BELOW.", () -> {
            for (int k = 4; k < 12; k++) {
                x.exception(k == 4 ? 1 : k - 1);
            }
            endedAsRoot(raise(11), "K11");
            endedAsRoot(raise(10), "K10 K11");
            endedAsRoot(raise(4), "K4 K5 K6 K7 K8 K9 K10 K11");
            endedAsRoot(raise(1), "K1 K2 K4 K5 K6 K7 K8 K9 K10 K11");
            endedAsRoot(raise(2), "K2");
        });
        sentence("Terms", "UNCHECKED are those BELOW 2 or 3.", () -> {
            x.exception(2);
            x.exception(3);
            x.exception(4);
            x.exception(5);
            x.exception(1);
            x.exception(0);
            x.exception(8);
            x.exception(9);
            for (int k = 2; k < 12; k++) {
                int caught = block();
                look(attempt(block(), NONE, caught, k));
                due("a CATCH of " + k + " is REACHED", x.reached(caught), k < 8);
            }
        });
    }

    /** A NODE of a SORT that is no LOOP, around another NODE. */
    private static int around(int sort, int inner) {
        switch (sort) {
            case IF:
                return either(2, inner, NONE);
            case LOCK:
                return lock(block(inner));
            case 12:
                return x.label(5, inner);
            case 13:
                return block(inner);
            case 14:
                return marked(SWITCH, 0, inner, 1);
            case 15:
                return marked(RULES, 0, block(inner), 1);
            default:
                return attempt(block(inner), block());
        }
    }

    private static void targets() {
        sentence("Terms", "within a ROOT, a NODE (what that is part of is not looked at)", () -> {
            int stop = leave();
            int named = x.jump(0, 3);
            int next = x.jump(1, 3);
            int inner = block(either(2, stop, named), next);
            int whole = loop(WHILE, 2, inner);
            int label = x.label(3, whole);
            int[][] seen = {{stop, NONE, NONE, NONE}, {inner, NONE, NONE, NONE}, {whole, whole, NONE, NONE},
                {label, whole, label, whole}};
            for (int[] s : seen) {
                look(s[0]);
                due("BREAK within " + s[0], x.target(stop), s[1]);
                due("BREAK with a NAME within " + s[0], x.target(named), s[2]);
                due("CONTINUE with a NAME within " + s[0], x.target(next), s[3]);
            }
        });
        sentence("Terms", "of a BREAK the nearest LOOP, SWITCH or RULES that it lies in", () -> {
            for (int sort : new int[] {WHILE, DO, FOR, EACH, 14, 15}) {
                start();
                int stop = leave();
                int near = sort <= EACH ? loop(sort, sort == EACH ? 0 : 2, stop) : around(sort, stop);
                look(loop(WHILE, 2, marked(SWITCH, 0, near, 1)));
                due("BREAK in SORT " + sort, x.target(stop), near);
            }
            for (int sort : new int[] {IF, LOCK, 12, 13, 16}) {
                int stop = leave();
                int far = loop(WHILE, 2, around(sort, stop));
                look(far);
                due("BREAK through SORT " + sort, x.target(stop), far);
            }
        });
        sentence("Terms", "of a CONTINUE the nearest LOOP;", () -> {
            for (int sort : new int[] {IF, LOCK, 12, 13, 14, 15, 16}) {
                start();
                int next = again();
                int near = loop(DO, 2, around(sort, next));
                look(loop(WHILE, 2, near));
                due("CONTINUE through SORT " + sort, x.target(next), near);
            }
        });
        sentence("Terms", "with one: the nearest LABEL of that NAME that it lies in; of a BREAK that LABEL", () -> {
            int stop = x.jump(0, 0);
            int last = x.jump(0, 5);
            int other = x.label(1, either(2, stop, last));
            int near = x.label(0, loop(WHILE, 2, other));
            int far = x.label(5, x.label(0, near));
            look(far);
            due("the nearest of its NAME", x.target(stop), near);
            due("the farthest of its NAME", x.target(last), far);
        });
        sentence("Terms", "of a CONTINUE its part, if that is a LOOP. Else there is none.", () -> {
            for (int sort = 0; sort <= 16; sort++) {
                continueToPartOf(sort);
            }
            int next = x.jump(1, 2);
            look(x.label(2, loop(WHILE, 2, x.label(2, block(next)))));
            due("the nearest LABEL alone is asked", x.target(next), NONE);
        });
        sentence("Terms", "Else there is none.", () -> {
            int stop = leave();
            int next = again();
            int named = x.jump(0, 1);
            look(x.label(2, block(stop, next, named)));
            due("BREAK", x.target(stop), NONE);
            due("CONTINUE", x.target(next), NONE);
            due("BREAK with a NAME", x.target(named), NONE);
        });
    }

    private static void continueToPartOf(int sort) {
        start();
        int next = x.jump(1, 2);
        boolean isLoop = sort >= WHILE && sort <= EACH;
        int whole = isLoop ? loop(sort, sort == EACH ? 0 : 1, next) : sort == IF || sort >= LOCK && sort != 10 && sort != 11
            ? around(sort, next) : next;
        look(x.label(2, whole));
        due("CONTINUE to a LABEL of SORT " + sort, x.target(next), isLoop ? whole : NONE);
    }

    // ======== Terms 2: THE RULES

    private static void rulesOfSimple() {
        sentence("Terms", "THE ROOT is REACHED.", () -> {
            for (int sort = 0; sort <= 16; sort++) {
                start();
                int n = ofSort(sort);
                look(n);
                reached(true, n);
                int whole = loop(WHILE, 0, n);
                look(whole);
                reached(true, whole);
                reached(false, n);
                look(n);
                reached(true, n);
                reached(false, whole);
            }
        });
        sentence("Terms", "Of a NODE that is not REACHED no part is, and it does not COMPLETE.", () -> {
            for (int sort = 0; sort <= 16; sort++) {
                start();
                int n = ofSort(sort);
                int whole = loop(FOR, 0, n);
                look(whole);
                for (int inner = 0; inner <= n; inner++) {
                    reached(false, inner);
                    completes(false, inner);
                }
                completes(true, whole);
            }
        });
        sentence("Terms", "EMPTY, ACT COMPLETE; THROW, RETURN, BREAK, CONTINUE do not.", () -> {
            completesAsRoot(true, empty());
            completesAsRoot(true, act(NONE));
            completesAsRoot(true, act(0));
            completesAsRoot(false, raise(0));
            completesAsRoot(false, give(0));
            completesAsRoot(false, give(1));
            int whole = loop(WHILE, 2, either(2, leave(), again()));
            look(whole);
            completes(false, x.part(x.part(whole, 0), 0), x.part(x.part(whole, 0), 1));
            completesAsRoot(false, leave());
            completesAsRoot(false, again());
        });
        sentence("Terms", "IF: its parts are REACHED, whatever its TEST is", () -> {
            for (int test = 0; test < 3; test++) {
                int a = give(0);
                int b = give(0);
                int c = give(0);
                look(block(either(test, a, NONE), either(test, b, c)));
                reached(true, a, b, c);
            }
        });
        sentence("Terms", "it COMPLETES, if it has one part, or one of two does.", () -> {
            for (int test = 0; test < 3; test++) {
                completesAsRoot(true, either(test, give(0), NONE));
                completesAsRoot(false, either(test, give(0), give(0)));
                completesAsRoot(true, either(test, empty(), give(0)));
                completesAsRoot(true, either(test, give(0), empty()));
                completesAsRoot(true, either(test, empty(), empty()));
            }
        });
        sentence("Terms", "LOCK: the part is REACHED; it COMPLETES, if that does.", () -> {
            int inner = block();
            completesAsRoot(true, lock(inner));
            reached(true, inner);
            inner = block(give(0));
            completesAsRoot(false, lock(inner));
            reached(true, inner);
        });
        sentence("Terms", "LABEL: likewise; or if a BREAK EXITS to it.", () -> {
            int inner = empty();
            completesAsRoot(true, x.label(0, inner));
            reached(true, inner);
            inner = give(0);
            completesAsRoot(false, x.label(0, inner));
            reached(true, inner);
            completesAsRoot(true, x.label(5, x.jump(0, 5)));
            completesAsRoot(false, x.label(4, x.jump(0, 5)));
            completesAsRoot(false, x.label(5, loop(WHILE, 1, x.jump(1, 5))));
            completesAsRoot(false, x.label(5, block(give(0), x.jump(0, 5))));
        });
    }

    private static void rulesOfLoops() {
        sentence("Terms", "WHILE, FOR: the part is REACHED, if the TEST is not 0", () -> {
            for (int sort : new int[] {WHILE, FOR}) {
                for (int test = 0; test < (sort == FOR ? 4 : 3); test++) {
                    int inner = empty();
                    look(loop(sort, test, inner));
                    reached(test != 0, inner);
                }
            }
        });
        sentence("Terms", "it COMPLETES, if the TEST is not 1, or a BREAK EXITS to it.", () -> {
            for (int sort : new int[] {WHILE, FOR}) {
                for (int test = 0; test < (sort == FOR ? 4 : 3); test++) {
                    boolean isOne = test == 1 || test == 3;
                    completesAsRoot(!isOne, loop(sort, test, empty()));
                    completesAsRoot(!isOne, loop(sort, test, give(0)));
                    completesAsRoot(!isOne, loop(sort, test, again()));
                    completesAsRoot(!isOne, loop(sort, test, block(give(0), leave())));
                    completesAsRoot(true, loop(sort, test, leave()));
                    start();
                }
            }
        });
        sentence("Terms", "DO: the part is REACHED; it COMPLETES, if the TEST is not 1, and the part COMPLETES, or a CONTINUE"
            + " EXITS to it; or if a BREAK does.", () -> {
            for (int test = 0; test < 3; test++) {
                int inner = empty();
                completesAsRoot(test != 1, loop(DO, test, inner));
                reached(true, inner);
                completesAsRoot(false, loop(DO, test, give(0)));
                completesAsRoot(test != 1, loop(DO, test, again()));
                completesAsRoot(false, loop(DO, test, block(give(0), again())));
                completesAsRoot(true, loop(DO, test, leave()));
                completesAsRoot(false, loop(DO, test, block(give(0), leave())));
                completesAsRoot(test != 1, loop(DO, test, either(test, again(), give(0))));
            }
        });
        sentence("Terms", "EACH: the part is REACHED; it COMPLETES.", () -> {
            int inner = give(0);
            completesAsRoot(true, loop(EACH, 0, inner));
            reached(true, inner);
            completesAsRoot(true, loop(EACH, 0, empty()));
        });
    }

    private static void rulesOfRows() {
        sentence("Terms", "BLOCK: the first part is REACHED; each other one, if that before it COMPLETES", () -> {
            int[] n = {empty(), act(0), give(0), empty(), empty()};
            look(block(n));
            reached(true, n[0], n[1], n[2]);
            reached(false, n[3], n[4]);
            int first = give(0);
            int second = empty();
            look(block(first, second));
            reached(true, first);
            reached(false, second);
        });
        sentence("Terms", "it COMPLETES, if it has none, or the last one does.", () -> {
            completesAsRoot(true, block());
            completesAsRoot(true, block(empty()));
            completesAsRoot(false, block(give(0)));
            completesAsRoot(true, block(empty(), empty()));
            completesAsRoot(false, block(empty(), give(0)));
            completesAsRoot(false, block(give(0), empty()));
        });
        sentence("Terms", "SWITCH: parts with a MARK (1, 2) are REACHED; each other one, if that before it COMPLETES", () -> {
            int[] n = {empty(), empty(), give(0), empty(), empty(), empty(), give(0), empty()};
            look(marked(SWITCH, 0, n[0], 1, n[1], 0, n[2], 0, n[3], 0, n[4], 2, n[5], 0, n[6], 1, n[7], 0));
            reached(true, n[0], n[1], n[2], n[4], n[5], n[6]);
            reached(false, n[3], n[7]);
        });
        sentence("Terms", "it COMPLETES, if it has no DEFAULT, or no part, or its end has a MARK (1, 2), or its last part COMPLETES,"
            + " or a BREAK EXITS to it.", () -> {
            completesAsRoot(true, marked(SWITCH, 0, give(0), 1));
            completesAsRoot(false, marked(SWITCH, 0, give(0), 2));
            completesAsRoot(false, marked(SWITCH, 0, give(0), 1, give(0), 2));
            completesAsRoot(false, marked(SWITCH, 0, give(0), 2, give(0), 1));
            for (int mark = 0; mark < 3; mark++) {
                completesAsRoot(true, marked(SWITCH, mark));
            }
            completesAsRoot(true, marked(SWITCH, 1, give(0), 2));
            completesAsRoot(true, marked(SWITCH, 2, give(0), 1));
            completesAsRoot(true, marked(SWITCH, 0, give(0), 2, empty(), 1));
            completesAsRoot(false, marked(SWITCH, 0, give(0), 2, empty(), 0));
            completesAsRoot(false, marked(SWITCH, 0, empty(), 2, give(0), 1));
            completesAsRoot(true, marked(SWITCH, 0, leave(), 2, give(0), 1));
            completesAsRoot(false, marked(SWITCH, 0, give(0), 2, leave(), 0));
        });
        sentence("Terms", "RULES: the parts are REACHED; it COMPLETES, if it has no DEFAULT, or a part COMPLETES, or a BREAK"
            + " EXITS to it.", () -> {
            int a = raise(0);
            int b = raise(0);
            completesAsRoot(false, marked(RULES, 0, a, 1, b, 2));
            reached(true, a, b);
            completesAsRoot(true, marked(RULES, 0));
            completesAsRoot(true, marked(RULES, 0, raise(0), 1));
            completesAsRoot(false, marked(RULES, 0, raise(0), 2));
            completesAsRoot(true, marked(RULES, 0, act(NONE), 2, raise(0), 1));
            completesAsRoot(true, marked(RULES, 0, raise(0), 2, act(NONE), 1));
            completesAsRoot(true, marked(RULES, 0, block(leave()), 2));
            completesAsRoot(false, marked(RULES, 0, block(give(0), leave()), 2));
        });
    }

    private static void rulesOfTries() {
        sentence("Terms", "TRY: THE BODY and THE ENDING are REACHED", () -> {
            int body = block(give(0));
            int ending = block(give(0));
            look(attempt(body, ending));
            reached(true, body, ending);
            int endless = block(loop(WHILE, 1, empty()));
            ending = block();
            look(attempt(endless, ending));
            reached(true, endless, ending);
        });
        sentence("Terms", "a CATCH of KIND c, if c is BELOW the KIND of no CATCH before it", () -> {
            int[] c = {block(), block(), block(), block(), block()};
            look(attempt(block(act(0)), NONE, c[0], 2, c[1], 2, c[2], 1, c[3], 2, c[4], 3));
            reached(true, c[0], c[2], c[4]);
            reached(false, c[1], c[3]);
        });
        sentence("Terms", "c is UNCHECKED, or 0, or 1;", () -> {
            x.exception(1);
            x.exception(0);
            x.exception(2);
            x.exception(3);
            for (int c = 0; c < 8; c++) {
                int caught = block();
                look(attempt(block(), NONE, caught, c));
                reached(c != 4 && c != 5, caught);
            }
        });
        sentence("Terms", "or THE BODY CAN THROW a KIND that is BELOW c, or that c is BELOW.", () -> {
            // the KIND that THE BODY CAN THROW; then whether CATCHES of 4, 5, 6, 7 are REACHED
            String[] due = {"1111", "1111", "0000", "0000", "1111", "1110", "1110", "1001"};
            for (int k = 0; k < 8; k++) {
                start();
                x.exception(1);
                x.exception(4);
                x.exception(5);
                x.exception(4);
                for (int c = 4; c < 8; c++) {
                    int caught = block();
                    look(attempt(block(act(k)), NONE, caught, c));
                    due("CATCH of " + c + " where " + k + " is thrown", x.reached(caught), due[k].charAt(c - 4) == '1');
                }
            }
        });
        sentence("Terms", "It COMPLETES, if THE BODY or a CATCH does, and THE ENDING, if there is one, does.", () -> {
            for (int which = 0; which < 4; which++) {
                for (int ending = 0; ending < 3; ending++) {
                    int body = which % 2 == 1 ? block() : block(give(0));
                    int caught = which / 2 == 1 ? block() : block(give(0));
                    int last = ending == 0 ? NONE : ending == 1 ? block() : block(give(0));
                    completesAsRoot(which > 0 && ending < 2, attempt(body, last, caught, 0));
                }
            }
            start();
            x.exception(1);
            completesAsRoot(false, attempt(block(give(0)), NONE, block(), 4));
            completesAsRoot(true, attempt(block(give(0)), NONE, block(give(0)), 2, block(), 3));
            completesAsRoot(false, attempt(block(give(0)), NONE, block(give(0)), 0, block(), 3));
        });
        sentence("Terms", "A BREAK, CONTINUE EXITS to its TARGET, if it is REACHED", () -> {
            completesAsRoot(false, loop(WHILE, 1, block(give(0), leave())));
            completesAsRoot(false, loop(DO, 2, block(give(0), again())));
            completesAsRoot(true, loop(WHILE, 1, block(empty(), leave())));
            completesAsRoot(true, loop(DO, 2, block(empty(), again())));
        });
        sentence("Terms", "and of each TRY within the TARGET, in whose BODY or one of whose CATCHES it lies, THE ENDING, if there is"
            + " one, COMPLETES.", BoundaryTests::exitsThroughTries);
    }

    private static void exitsThroughTries() {
        for (int where = 0; where < 4; where++) {
            for (int ending = where == 3 ? 1 : 0; ending < 3; ending++) {
                boolean exits = where == 3 || ending < 2;
                completesAsRoot(exits, loop(WHILE, 1, tryWithJump(leave(), where, ending)));
                completesAsRoot(exits, loop(DO, 2, tryWithJump(again(), where, ending)));
                start();
            }
        }
        int passes = tryWithJump(leave(), 0, 1);
        completesAsRoot(false, loop(WHILE, 1, attempt(block(passes), block(give(0)))));
        start();
        int stops = tryWithJump(leave(), 0, 2);
        completesAsRoot(false, loop(WHILE, 1, attempt(block(stops), block())));
        start();
        int inEnding = tryWithJump(leave(), 0, 1);
        completesAsRoot(true, loop(WHILE, 1, attempt(block(), block(inEnding))));
        start();
        int within = loop(WHILE, 1, leave());
        look(attempt(block(within), block(give(0))));
        completes(true, within);
    }

    /** A TRY with a jump in its BODY (0), a CATCH (1, 2) or its ENDING (3), and no ENDING (0), one that COMPLETES (1) or not. */
    private static int tryWithJump(int jump, int where, int ending) {
        int body = where == 0 ? block(jump) : block(give(0));
        int first = where == 1 ? block(jump) : block(give(0));
        int second = where == 2 ? block(jump) : block(give(0));
        int rest = ending == 1 ? empty() : give(0);
        int last = ending == 0 ? NONE : where == 3 ? block(either(2, jump, NONE), rest) : block(rest);
        return attempt(body, last, first, 2, second, 3);
    }

    private static void rulesOfThrowing() {
        sentence("Terms", "A NODE that is REACHED CAN THROW: ACT, THROW their KIND", () -> {
            x.exception(1);
            for (int k = 0; k < 5; k++) {
                int a = act(k);
                int t = raise(k);
                look(block(a, t));
                throwing(a, "" + k);
                throwing(t, "" + k);
            }
            int none = act(NONE);
            look(none);
            throwing(none, "");
        });
        sentence("Terms", "TRY: what its BODY can, but for KINDS BELOW that of a CATCH, and what its CATCHES can, both if there is no"
            + " ENDING, or that COMPLETES; and what THE ENDING can", () -> {
            x.exception(1);
            x.exception(0);
            for (int ending = 0; ending < 3; ending++) {
                int body = block(act(0), act(1), act(2), act(4));
                int caught = block(act(3));
                int last = ending == 0 ? NONE : ending == 1 ? block(act(5)) : block(act(5), give(0));
                int whole = attempt(body, last, caught, 4);
                look(whole);
                throwing(body, "0 1 2 4");
                throwing(whole, ending == 0 ? "0 1 2 3" : ending == 1 ? "0 1 2 3 5" : "5");
            }
            int all = attempt(block(act(0), act(5)), NONE, block(act(4)), 0);
            look(all);
            throwing(all, "4");
        });
        sentence("Terms", "others what one of their parts can.", () -> {
            for (int sort : new int[] {IF, LOCK, 12, 13, 14, 15}) {
                int whole = around(sort, act(3));
                look(whole);
                throwing(whole, "3");
            }
            for (int sort = WHILE; sort <= EACH; sort++) {
                int whole = loop(sort, sort == EACH ? 0 : 1, act(2));
                look(whole);
                throwing(whole, "2");
            }
            int both = either(0, act(1), act(3));
            look(both);
            throwing(both, "1 3");
            start();
            int[] parts = {empty(), act(1), raise(2), act(3)};
            int whole = block(parts);
            look(whole);
            throwing(whole, "1 2");
            int fallen = marked(SWITCH, 0, act(0), 1, raise(2), 0, act(3), 0, act(1), 1);
            look(fallen);
            throwing(fallen, "0 1 2");
        });
        sentence("Terms", "(One that is not REACHED: nothing.)", () -> {
            int lost = act(0);
            int thrower = raise(1);
            int inner = block(lost, thrower);
            int whole = loop(WHILE, 0, inner);
            look(whole);
            throwing(lost, "");
            throwing(thrower, "");
            throwing(inner, "");
            throwing(whole, "");
            look(inner);
            throwing(inner, "0 1");
        });
    }

    // ======== Terms 3: WALKS

    private static void walksOfSimple() {
        sentence("Terms", "WALKS go through THE ROOT.", () -> {
            for (int sort = 0; sort <= 16; sort++) {
                start();
                int n = ofSort(sort);
                look(loop(WHILE, 0, n));
                walked(false, n);
                look(n);
                walked(true, n);
            }
        });
        sentence("Terms", "EMPTY is ended NORMALLY; ACT NORMALLY, or by any KIND BELOW its own; THROW by any KIND BELOW its own; RETURN"
            + " by RETURN", () -> {
            x.exception(2);
            endedAsRoot(empty(), "N");
            endedAsRoot(act(NONE), "N");
            String[] below = {"K0 K1 K2 K3 K4", "K1 K2 K4", "K2 K4", "K3", "K4"};
            for (int k = 0; k < 5; k++) {
                endedAsRoot(act(k), "N " + below[k]);
                endedAsRoot(raise(k), below[k]);
            }
            endedAsRoot(give(0), "R");
            endedAsRoot(give(1), "R");
        });
        sentence("Terms", "BREAK, CONTINUE by that to the TARGET; in no way, if there is none.", () -> {
            int stop = leave();
            int next = again();
            int whole = loop(WHILE, 2, either(2, stop, next));
            look(whole);
            ended(stop, "B" + whole);
            ended(next, "C" + whole);
            endedAsRoot(stop, "");
            endedAsRoot(next, "");
            walked(true, next);
            endedAsRoot(x.label(0, x.jump(1, 0)), "");
        });
        sentence("Terms", "IF: by TEST 1 to the part, by 0 to the second one (without one: ended NORMALLY), by 2 either; ended as that"
            + " part is.", () -> {
            String[] alone = {"N", "R", "N R"};
            String[] both = {"K3", "R", "R K3"};
            for (int test = 0; test < 3; test++) {
                int part = give(0);
                endedAsRoot(either(test, part, NONE), alone[test]);
                walked(test != 0, part);
                part = give(0);
                int second = raise(3);
                endedAsRoot(either(test, part, second), both[test]);
                walked(test != 0, part);
                walked(test != 1, second);
            }
        });
        sentence("Terms", "LOCK: to its part, ended as that is.", () -> {
            endedAsRoot(lock(block()), "N");
            endedAsRoot(lock(block(act(2), give(0))), "R K2");
            walked(true, x.part(x.of(3), 0));
        });
        sentence("Terms", "LABEL: likewise, but NORMALLY, if that is by a BREAK to it.", () -> {
            endedAsRoot(x.label(0, act(2)), "N K2");
            endedAsRoot(x.label(0, x.jump(0, 0)), "N");
            int out = x.jump(0, 1);
            int inner = x.label(0, out);
            int outer = x.label(1, inner);
            look(outer);
            ended(inner, "B" + outer);
            ended(outer, "N");
        });
    }

    private static void walksOfLoops() {
        sentence("Terms", "LOOPS ask their TEST first, DO behind its part (EACH as if it were OPEN): by 0 ended NORMALLY, by 1 to the"
            + " part, by 2 either", () -> {
            // the ends with a part that returns, by TEST 0, 1, 2 (and 3)
            String[][] dues = {{"N", "R", "N R"}, {"R", "R", "R"}, {"N", "R", "N R", "R"}, {"N R"}};
            for (int sort = WHILE; sort <= EACH; sort++) {
                for (int test = 0; test < dues[sort - WHILE].length; test++) {
                    int part = give(0);
                    endedAsRoot(loop(sort, test, part), dues[sort - WHILE][test]);
                    walked(sort >= EACH || sort == DO || test != 0, part);
                }
            }
        });
        sentence("Terms", "if that is ended NORMALLY, or by a CONTINUE to the LOOP, the TEST is asked (again)", () -> {
            String[][] dues = {{"N", "", "N"}, {"N", "", "N"}, {"N", "", "N", ""}, {"N"}};
            for (int sort = WHILE; sort <= EACH; sort++) {
                for (int test = 0; test < dues[sort - WHILE].length; test++) {
                    endedAsRoot(loop(sort, test, empty()), dues[sort - WHILE][test]);
                    endedAsRoot(loop(sort, test, again()), dues[sort - WHILE][test]);
                    start();
                }
            }
        });
        sentence("Terms", "if by a BREAK to the LOOP, that is ended NORMALLY; else as the part is.", () -> {
            for (int sort = WHILE; sort <= EACH; sort++) {
                int test = sort == EACH ? 0 : 1;
                endedAsRoot(loop(sort, test, leave()), "N");
                endedAsRoot(loop(sort, test, raise(2)), sort == EACH ? "N K2" : "K2");
                start();
                int inner = loop(sort, test, either(2, x.jump(0, 0), x.jump(1, 0)));
                int outer = loop(WHILE, 1, inner);
                int label = x.label(0, outer);
                look(label);
                ended(inner, (sort == EACH ? "N " : "") + "B" + label + " C" + outer);
                ended(outer, "B" + label);
                ended(label, "N");
                start();
            }
        });
    }

    private static void walksOfRows() {
        sentence("Terms", "BLOCK: to its parts one by one, while they are ended NORMALLY; ended as the last one that was come to is"
            + " (NORMALLY without any).", () -> {
            endedAsRoot(block(), "N");
            int[] n = {act(2), act(3), give(0), empty()};
            int whole = block(n);
            endedAsRoot(whole, "R K2 K3");
            walked(true, n[0], n[1], n[2]);
            walked(false, n[3]);
            int never = either(1, give(0), NONE);
            int rest = empty();
            endedAsRoot(block(never, rest), "R");
            walked(false, rest);
            endedAsRoot(block(empty(), empty()), "N");
        });
        sentence("Terms", "SWITCH: to any part with a MARK, or to its end, if that has a MARK, or there is no DEFAULT; on from there as"
            + " a BLOCK; NORMALLY, if that is by a BREAK to it.", () -> {
            for (int mark = 0; mark < 3; mark++) {
                endedAsRoot(marked(SWITCH, mark), "N");
            }
            endedAsRoot(marked(SWITCH, 0, give(0), 1), "N R");
            endedAsRoot(marked(SWITCH, 0, give(0), 2), "R");
            endedAsRoot(marked(SWITCH, 1, give(0), 2), "N R");
            endedAsRoot(marked(SWITCH, 2, give(0), 1), "N R");
            endedAsRoot(marked(SWITCH, 0, leave(), 2), "N");
            start();
            int[] n = {act(3), raise(2), give(0), empty(), empty()};
            endedAsRoot(marked(SWITCH, 0, n[0], 1, n[1], 0, n[2], 0, n[3], 2, n[4], 0), "N K2 K3");
            walked(true, n[0], n[1], n[3], n[4]);
            walked(false, n[2]);
        });
        sentence("Terms", "RULES: to any one part, or ended NORMALLY, if there is no DEFAULT; ended as that part is, but NORMALLY, if"
            + " that is by a BREAK to it.", () -> {
            endedAsRoot(marked(RULES, 0), "N");
            endedAsRoot(marked(RULES, 0, raise(2), 1), "N K2");
            endedAsRoot(marked(RULES, 0, raise(2), 2), "K2");
            int[] n = {raise(2), raise(3), block(give(0))};
            endedAsRoot(marked(RULES, 0, n[0], 1, n[1], 2, n[2], 1), "R K2 K3");
            walked(true, n);
            endedAsRoot(marked(RULES, 0, block(leave()), 2), "N");
        });
    }

    private static void walksOfTries() {
        sentence("Terms", "TRY: to THE BODY; if that is ended by a KIND, to the first CATCH whose KIND it is BELOW, if there is one",
            () -> {
                int[] c = {block(), block(give(0)), block(raise(3)), block()};
                int body = block(act(0));
                int whole = attempt(body, NONE, c[0], 2, c[1], 2, c[2], 1, c[3], 2);
                endedAsRoot(whole, "N K0 K3");
                walked(true, body, c[0], c[2]);
                walked(false, c[1], c[3]);
                int quiet = block();
                int never = block(give(0));
                endedAsRoot(attempt(quiet, NONE, never, 0), "N");
                walked(false, never);
            });
        sentence("Terms", "then, however that was ended, to THE ENDING, if there is one", () -> {
            int[] jumps = {empty(), give(0), raise(2), leave(), again()};
            for (int jump : jumps) {
                int ending = block();
                look(loop(WHILE, 2, attempt(block(jump), ending)));
                walked(true, ending);
            }
            int endless = block(loop(WHILE, 1, empty()));
            int ending = block();
            endedAsRoot(attempt(endless, ending), "");
            walked(false, ending);
            for (int kind = 0; kind < 2; kind++) {
                for (int name = NONE; name < 6; name++) {
                    start();
                    int astray = block(x.jump(kind, name));
                    ending = block();
                    endedAsRoot(attempt(astray, ending), "");
                    walked(false, ending);
                }
            }
        });
        sentence("Terms", "ended as that before it was, if THE ENDING is ended NORMALLY, or there is none; else as THE ENDING is.",
            () -> {
                endedAsRoot(attempt(block(act(2), give(0)), block()), "R K2");
                endedAsRoot(attempt(block(act(2), give(0)), NONE, block(), 1), "N R");
                endedAsRoot(attempt(block(act(2), give(0)), block(raise(3))), "K3");
                endedAsRoot(attempt(block(act(2), give(0)), block(act(3))), "R K2 K3");
                start();
                int taken = attempt(block(either(2, leave(), again())), block(give(0)));
                int whole = loop(WHILE, 1, taken);
                look(whole);
                ended(x.part(taken, 0), "B" + whole + " C" + whole);
                ended(taken, "R");
                ended(whole, "R");
                start();
                int kept = attempt(block(either(2, leave(), again())), block());
                whole = loop(WHILE, 1, kept);
                look(whole);
                ended(kept, "B" + whole + " C" + whole);
                ended(whole, "N");
                start();
                int over = attempt(block(give(0)), block(leave()));
                whole = loop(WHILE, 1, over);
                look(whole);
                ended(over, "B" + whole);
                ended(whole, "N");
            });
    }

    // ======== Terms 4: FAULTS, NOTES, REFUSALS

    private static void faultsAndNotes() {
        sentence("Terms", "FAULTS, in the order of the text (a NODE ahead of its parts; these as they stand: a TRY'S BODY, CATCHES,"
            + " ENDING)", () -> {
            int[] stray = {leave(), leave(), leave(), leave(), leave()};
            int ending = block(stray[0]);
            int second = block(stray[1]);
            int first = block(stray[2]);
            int body = block(stray[3]);
            int whole = attempt(body, ending, first, 2, second, 3);
            int ahead = x.label(0, stray[4]);
            faults(x.label(0, block(ahead, whole)), 5, ahead, 2, stray[4], 1, whole, 2, stray[3], 2, stray[2], 2, stray[1],
                2, stray[0]);
        });
        sentence("Terms", "of several at a NODE the lesser first", () -> {
            int stray = leave();
            faults(block(give(0), stray), 1, stray, 2, stray);
            int twice = x.label(0, empty());
            faults(x.label(0, block(give(0), twice)), 1, twice, 5, twice);
        });
        sentence("Terms", "1 it is not REACHED, what it is part of is, and it is no CATCH", () -> {
            int inner = empty();
            int lost = block(inner);
            faults(loop(WHILE, 0, lost), 1, lost);
            x.exception(1);
            int caught = block();
            faults(attempt(block(), NONE, caught, 4), 4, caught);
            faults(lost);
        });
        sentence("Terms", "(of parts one behind the other in a row that are not REACHED the first one alone)", () -> {
            int[] n = {give(0), empty(), empty(), empty()};
            faults(block(n), 1, n[1]);
            int[] s = {give(0), empty(), empty(), give(0), empty(), empty()};
            faults(marked(SWITCH, 0, s[0], 1, s[1], 0, s[2], 0, s[3], 2, s[4], 0, s[5], 0), 1, s[1], 1, s[4]);
            start();
            give(0);
            fill(59);
            x.row(BLOCK);
            for (int i = 0; i < 59; i++) {
                x.put(i, 0);
            }
            faults(x.end(0), 1, 1);
        });
        sentence("Terms", "2 a BREAK, CONTINUE that has no TARGET.", () -> {
            int[] n = {leave(), again(), x.jump(0, 0), x.jump(1, 0), x.jump(1, 1)};
            int row = block(n);
            faults(x.label(1, row), 2, n[0], 1, n[1], 2, n[1], 2, n[2], 2, n[3], 2, n[4]);
            int fine = leave();
            faults(loop(WHILE, 1, fine));
            faults(fine, 2, fine);
        });
        sentence("Terms", "3 a CATCH whose KIND is BELOW that of one before it.", () -> {
            int[] c = {block(), block(), block(), block(), block()};
            faults(attempt(block(act(0)), NONE, c[0], 2, c[1], 1, c[2], 1, c[3], 3, c[4], 2), 3, c[2], 3, c[4]);
        });
        sentence("Terms", "4 another CATCH that is not REACHED, but its TRY is.", () -> {
            x.exception(1);
            x.exception(4);
            int[] c = {block(), block(), block()};
            int whole = attempt(block(), block(), c[0], 5, c[1], 4, c[2], 5);
            faults(whole, 4, c[0], 4, c[1], 3, c[2]);
            faults(loop(WHILE, 0, whole), 1, whole, 3, c[2]);
        });
        sentence("Terms", "5 a LABEL that lies in one of its NAME.", () -> {
            int deep = empty();
            for (int i = 0; i < 59; i++) {
                deep = x.label(5, deep);
            }
            due("59 LABELS, one in the other", x.check(deep), 58);
            due("the first FAULT", x.fault(0, 1), 58);
            due("the last FAULT", x.fault(57, 1), 1);
            start();
            int inner = x.label(0, empty());
            int beside = x.label(0, empty());
            faults(x.label(1, block(inner, beside)));
            faults(inner);
        });
        sentence("Terms", "(2, 3, 5 whether REACHED or not.)", () -> {
            int[] c = {block(), block()};
            int twice = x.label(0, attempt(block(), NONE, c[0], 2, c[1], 2));
            int lost = x.label(0, twice);
            faults(loop(FOR, 0, lost), 1, lost, 5, twice, 3, c[1]);
            start();
            int stray = x.jump(1, 2);
            int in = block(stray);
            faults(loop(WHILE, 0, in), 1, in, 2, stray);
        });
        sentence("Terms", "NOTES, in that order, too: NODES that are REACHED, but no WALK comes to them, though one does to what they are"
            + " part of.", () -> {
            int inner = empty();
            int never = block(inner);
            int[] n = {either(0, never, NONE), either(1, give(0), NONE), empty(), empty()};
            notes(block(n), never, n[2], n[3]);
            notes(never);
            int lost = empty();
            notes(loop(WHILE, 0, lost));
            int c = block();
            int ending = block();
            int endless = block(loop(WHILE, 1, empty()));
            notes(attempt(endless, ending, c, 0), c, ending);
        });
    }

    private static void refusals() {
        sentence("Terms", "REFUSALS are answers: BAD (a number is none, or out of its bounds; a NODE that may not stand there) first; then"
            + " what a call names, in the order named.", () -> {
            Runnable full = () -> {
                for (int k = 4; k < 12; k++) {
                    x.exception(0);
                }
                fill(60);
                x.row(BLOCK);
            };
            refused("exception(12), full", BAD, full, () -> x.exception(12));
            refused("node(0, 1, -1, -1), full", BAD, full, () -> x.node(EMPTY, 1, NONE, NONE));
            refused("node(9, 0, 0, -1), full", BAD, full, () -> lock(0));
            refused("jump(0, 6), full", BAD, full, () -> x.jump(0, 6));
            refused("label(6, 0), full", BAD, full, () -> x.label(6, 0));
            refused("row(4), while one is being made", BAD, full, () -> x.row(4));
            refused("row(0), while one is being made", NO, full, () -> x.row(0));
            refused("end(1), full", BAD, full, () -> x.end(1));
            refused("end(0), full", FULL, full, () -> x.end(0));
        });
        sentence("Terms", "What is refused changes nothing.", () -> {
            Runnable made = () -> {
                int stray = leave();
                look(loop(WHILE, 2, either(0, stray, act(1))));
                x.exception(1);
                rowOf(SWITCH, empty(), 2);
                empty();
            };
            refused("check(6)", BAD, made, () -> x.check(6));
            refused("member(3, 4)", BAD, made, () -> x.member(3, 4));
            refused("put(5, 2)", BAD, made, () -> x.put(5, 2));
            refused("end(2)", BAD, made, () -> x.end(2));
            refused("row(1)", NO, made, () -> x.row(1));
            refused("exception(5)", BAD, made, () -> x.exception(5));
            refused("label(0, 0)", BAD, made, () -> x.label(0, 0));
            refused("told(0, 5)", BAD, made, () -> x.told(0, 5));
            refused("part(3, 1)", BAD, made, () -> x.part(3, 1));
            refused("of(4)", BAD, made, () -> x.of(4));
        });
    }

    // ======== the promises

    private static void promise1() {
        sentence("Promise 1", "No NODES; KINDS 0 .. 3; no row is being made, nothing is looked at.", () -> {
            due("of(0)", x.of(0), 0);
            due("of(1)", x.of(1), 4);
            due("of(2)", x.of(2), NONE);
            due("of(3)", x.of(3), NONE);
            due("told(0, 0)", x.told(0, 0), BAD);
            due("check(0)", x.check(0), BAD);
            due("put(0, 0)", x.put(0, 0), NO);
            due("end(0)", x.end(0), NO);
            due("drop()", x.drop(), NO);
            due("notes()", x.notes(), 0);
            due("the last KIND", raise(3), 0);
            due("none behind it", raise(4), BAD);
            reached(false, 0);
            walked(false, 0);
        });
    }

    private static void promise2() {
        sentence("Promise 2", "All as at first", BoundaryTests::asAtFirst);
        sentence("Promise 2", "how many NODES there were.", () -> {
            due("clear() of none", x.clear(), 0);
            empty();
            due("clear() of one", x.clear(), 1);
            due("clear() again", x.clear(), 0);
            fill(60);
            due("clear() of all", x.clear(), 60);
            rowOf(BLOCK, empty(), 0);
            due("clear() of one in a row", x.clear(), 1);
        });
    }

    private static void promise3() {
        sentence("Promise 3", "A KIND more, right below one: its number.", () -> {
            for (int k = 4; k < 12; k++) {
                due("exception(" + (k - 1) + ")", x.exception(k - 1), k);
                due("of(1)", x.of(1), k + 1);
            }
        });
        sentence("Promise 3", "BAD;", () -> {
            refusedOutside("exception(?) of 4", 0, 3, () -> { }, n -> x.exception(n));
            refusedOutside("exception(?) of 12", 0, 11, BoundaryTests::allKinds, n -> x.exception(n));
        });
        sentence("Promise 3", "FULL: 12.", () -> {
            for (int k = 0; k < 12; k++) {
                int above = k;
                refused("exception(" + k + ")", FULL, BoundaryTests::allKinds, () -> x.exception(above));
            }
            allKinds();
            x.clear();
            due("exception(0) after clear()", x.exception(0), 4);
        });
    }

    private static void allKinds() {
        for (int k = 4; k < 12; k++) {
            x.exception(k % 4);
        }
    }

    /** Whatever an object was used for, when it is cleared, all is answered as by a new one. */
    private static void asAtFirst() {
        List<Runnable> used = List.of(BoundaryTests::useAllKinds, BoundaryTests::useRows, BoundaryTests::useDeepTree);
        List<Runnable> next = List.of(() -> { }, BoundaryTests::allKinds, BoundaryTests::lookAtRows, BoundaryTests::lookAtLoop,
            () -> {
                tangled();
                look(27);
            });
        for (Runnable before : used) {
            for (Runnable then : next) {
                sameAnswers("after clear()", then, () -> {
                    before.run();
                    x.clear();
                    then.run();
                });
            }
        }
    }

    private static void sameAnswers(String what, Runnable made, Runnable other) {
        for (Supplier<List<Integer>> probe : PROBES) {
            anew(made);
            List<Integer> first = probe.get();
            anew(other);
            if (!probe.get().equals(first)) {
                say(what + " something is otherwise");
                return;
            }
        }
    }

    private static void useAllKinds() {
        for (int k = 4; k < 12; k++) {
            x.exception(k - 1);
        }
        int stray = x.jump(0, 5);
        int never = either(0, act(11), NONE);
        fill(59);
        look(block(never, stray));
        x.drop();
        rowOf(SWITCH, 58, 2);
    }

    private static void useRows() {
        int e = empty();
        int s = marked(SWITCH, 0, give(1), 2);
        look(block(s, e));
        int t = attempt(block(act(0)), block(raise(3)), block(leave()), 2);
        int all = marked(SWITCH, 1, 3, 2, t, 1);
        look(loop(DO, 2, all));
        rowOf(TRY, block(), NONE);
    }

    private static void useDeepTree() {
        int deep = leave();
        for (int n = 1; n < 59; n++) {
            deep = x.label(n % 6, deep);
        }
        look(loop(WHILE, 1, deep));
    }

    private static void lookAtRows() {
        int rules = marked(RULES, 0);
        int s = marked(SWITCH, 0, give(0), 1);
        int b = block(act(2), raise(1));
        look(marked(SWITCH, 0, rules, 2, s, 0, b, 1));
    }

    private static void lookAtLoop() {
        int parts = block(empty(), give(0));
        look(loop(DO, 2, parts));
    }

    /** 28 NODES; how far THE ROOT goes tells which jumps have a TARGET, and which ENDINGS are come to. */
    private static void tangled() {
        int out = attempt(block(leave()), block());
        int next = attempt(block(again()), block(act(1)));
        int named = attempt(block(x.jump(0, 0)), block());
        int back = attempt(block(x.jump(1, 0)), block());
        int which = marked(SWITCH, 0, out, 1, next, 1, named, 2, back, 1);
        int last = attempt(block(act(2), leave()), block(), block(raise(3)), 2);
        x.label(0, loop(WHILE, 2, block(which, last)));
    }

    private static void promise4() {
        sentence("Promise 4", "A NODE of SORT 0 .. 9: its number.", () -> {
            refusedOutside("node(?, 0, -1, -1)", 0, 9, BoundaryTests::block, n -> x.node(n, 0, NONE, NONE));
            refusedOutside("node(?, 0, 0, -1)", 0, 9, BoundaryTests::block, n -> x.node(n, 0, 0, NONE));
            for (int sort = 0; sort < 10; sort++) {
                start();
                int part = block();
                due("node() of SORT " + sort, x.node(sort, 0, sort == EMPTY ? NONE : sort <= RETURN ? 0 : part, NONE), 1);
                due("its SORT", x.told(1, 0), sort);
            }
        });
        sentence("Promise 4", "test is its TEST (of others 0)", () -> {
            for (int sort : new int[] {EMPTY, ACT, THROW, RETURN, EACH, LOCK}) {
                int a = sort == EMPTY ? NONE : 0;
                refusedOutside("node(" + sort + ", ?, " + a + ", -1)", 0, 0, BoundaryTests::block,
                    test -> x.node(sort, test, a, NONE));
            }
        });
        sentence("Promise 4", "a the part", () -> {
            for (int sort = IF; sort <= LOCK; sort++) {
                int of = sort;
                answeredAt("node(" + sort + ", 0, ?, -1)", BoundaryTests::fourBlocks, a -> loop(of, 0, a), 4, 0, 3);
                refusedOutside("node(" + sort + ", 0, ?, -1)", 0, 3, BoundaryTests::fourBlocks, a -> loop(of, 0, a));
            }
        });
        sentence("Promise 4", "of ACT its KIND, or NONE", () -> {
            answeredAt("node(1, 0, ?, -1)", () -> { }, a -> act(a), 0, NONE, 0, 1, 2, 3);
            refusedOutside("node(1, 0, ?, -1)", NONE, 3, () -> { }, a -> act(a));
            answeredAt("node(1, 0, ?, -1) of 12", BoundaryTests::allKinds, a -> act(a), 0, NONE, 0, 11);
            refusedOutside("node(1, 0, ?, -1) of 12", NONE, 11, BoundaryTests::allKinds, a -> act(a));
        });
        sentence("Promise 4", "of THROW its KIND", () -> {
            answeredAt("node(2, 0, ?, -1)", () -> { }, a -> raise(a), 0, 0, 1, 2, 3);
            refusedOutside("node(2, 0, ?, -1)", 0, 3, () -> { }, a -> raise(a));
            answeredAt("node(2, 0, ?, -1) of 12", BoundaryTests::allKinds, a -> raise(a), 0, 0, 11);
            refusedOutside("node(2, 0, ?, -1) of 12", 0, 11, BoundaryTests::allKinds, a -> raise(a));
        });
        sentence("Promise 4", "of RETURN 1 or 0", () -> {
            answeredAt("node(3, 0, ?, -1)", () -> { }, a -> give(a), 0, 0, 1);
            refusedOutside("node(3, 0, ?, -1)", 0, 1, () -> { }, a -> give(a));
        });
        sentence("Promise 4", "of EMPTY NONE)", () -> {
            answeredAt("node(0, 0, ?, -1)", BoundaryTests::block, a -> x.node(EMPTY, 0, a, NONE), 1, NONE);
            refusedOutside("node(0, 0, ?, -1)", NONE, NONE, BoundaryTests::block, a -> x.node(EMPTY, 0, a, NONE));
        });
        sentence("Promise 4", "b the second part or NONE", () -> {
            answeredAt("node(4, 2, 1, ?)", BoundaryTests::fourBlocks, b -> either(2, 1, b), 4, NONE, 0, 2, 3);
            refusedOutside("node(4, 2, 1, ?)", NONE, 3, BoundaryTests::fourBlocks, b -> either(2, 1, b));
            refused("node(4, 2, 1, 1)", BAD, BoundaryTests::fourBlocks, () -> either(2, 1, 1));
            refused("node(4, 2, -1, 1)", BAD, BoundaryTests::fourBlocks, () -> either(2, NONE, 1));
        });
        sentence("Promise 4", "(of others NONE).", () -> {
            for (int sort = 0; sort < 10; sort++) {
                int of = sort;
                int a = sort == EMPTY ? NONE : sort == ACT || sort == THROW ? 0 : 1;
                if (sort != IF) {
                    refusedOutside("node(" + sort + ", 0, " + a + ", ?)", NONE, NONE, BoundaryTests::fourBlocks,
                        b -> x.node(of, 0, a, b));
                }
            }
        });
        sentence("Promise 4", "BAD;", () -> {
            for (int sort = 0; sort < 10; sort++) {
                int of = sort;
                for (int n : outside(NONE, 11)) {
                    refused("node(" + sort + ", 0, " + n + ", -1)", BAD, () -> { }, () -> x.node(of, 0, n, NONE));
                    refused("node(" + sort + ", 0, 0, " + n + ")", BAD, BoundaryTests::block, () -> x.node(of, 0, 0, n));
                    refused("node(" + sort + ", " + n + ", 0, -1)", BAD, BoundaryTests::block, () -> x.node(of, n, 0, NONE));
                }
            }
        });
        sentence("Promise 4", "FULL.", BoundaryTests::nodesWhenFull);
    }

    private static void promise5() {
        sentence("Promise 5", "A BREAK (kind 0), CONTINUE (1) with a NAME, or NONE: its number.", () -> {
            for (int kind = 0; kind < 2; kind++) {
                for (int name = NONE; name < 6; name++) {
                    int made = x.jump(kind, name);
                    due("jump(" + kind + ", " + name + ")", made, 7 * kind + name + 1);
                    due("its SORT", x.told(made, 0), 10 + kind);
                    due("its NAME", x.told(made, 1), name);
                }
            }
        });
        sentence("Promise 5", "BAD;", () -> {
            refusedOutside("jump(?, -1)", 0, 1, BoundaryTests::empty, kind -> x.jump(kind, NONE));
            refusedOutside("jump(?, 0)", 0, 1, BoundaryTests::empty, kind -> x.jump(kind, 0));
            refusedOutside("jump(0, ?)", NONE, 5, BoundaryTests::empty, name -> x.jump(0, name));
            refusedOutside("jump(1, ?)", NONE, 5, BoundaryTests::empty, name -> x.jump(1, name));
        });
        sentence("Promise 5", "FULL.", () -> {
            for (int kind = 0; kind < 2; kind++) {
                int of = kind;
                answeredAt("jump(" + kind + ", ?), the last one", () -> fill(59), name -> x.jump(of, name), 59, NONE, 0, 5);
                refused("jump(" + kind + ", -1)", FULL, () -> fill(60), () -> x.jump(of, NONE));
                refused("jump(" + kind + ", 5)", FULL, () -> fill(60), () -> x.jump(of, 5));
                refused("jump(" + kind + ", 6)", BAD, () -> fill(60), () -> x.jump(of, 6));
            }
        });
    }

    private static void promise6() {
        sentence("Promise 6", "A LABEL with a NAME: its number.", () -> {
            for (int name = 0; name < 6; name++) {
                int part = empty();
                int made = x.label(name, part);
                due("label(" + name + ", " + part + ")", made, part + 1);
                due("its SORT", x.told(made, 0), 12);
                due("its NAME", x.told(made, 1), name);
                due("its part", x.part(made, 0), part);
            }
        });
        sentence("Promise 6", "BAD;", () -> {
            refusedOutside("label(?, 0)", 0, 5, BoundaryTests::fourBlocks, name -> x.label(name, 0));
            refusedOutside("label(0, ?)", 0, 3, BoundaryTests::fourBlocks, part -> x.label(0, part));
            answeredAt("label(5, ?)", BoundaryTests::fourBlocks, part -> x.label(5, part), 4, 0, 3);
            refused("label(0, 0) of no NODES", BAD, () -> { }, () -> x.label(0, 0));
        });
        sentence("Promise 6", "FULL.", () -> {
            answeredAt("label(5, ?), the last one", () -> fill(59), part -> x.label(5, part), 59, 0, 58);
            refused("label(0, 0)", FULL, () -> fill(60), () -> x.label(0, 0));
            refused("label(5, 59)", FULL, () -> fill(60), () -> x.label(5, 59));
            refused("label(6, 59)", BAD, () -> fill(60), () -> x.label(6, 59));
            refused("label(5, 60)", BAD, () -> fill(60), () -> x.label(5, 60));
        });
    }

    private static void nodesWhenFull() {
        Runnable most = () -> {
            block();
            fill(59);
        };
        for (int sort = 0; sort < 10; sort++) {
            int of = sort;
            int a = sort == EMPTY ? NONE : 0;
            answeredAt("node(" + sort + ", 0, ?, -1), the last one", most, n -> x.node(of, 0, n, NONE), 59, a);
            refused("node(" + sort + ", 0, " + a + ", -1)", FULL, () -> {
                most.run();
                empty();
            }, () -> x.node(of, 0, a, NONE));
            refused("node(" + sort + ", 9, " + a + ", -1)", BAD, () -> {
                most.run();
                empty();
            }, () -> x.node(of, 9, a, NONE));
        }
    }

    private static void promise7() {
        sentence("Promise 7", "A row is being made: of a BLOCK (kind 0), SWITCH (1), RULES (2), a TRY (3): kind.", () -> {
            for (int kind = BLOCK; kind <= TRY; kind++) {
                due("row(" + kind + ")", x.row(kind), kind);
                due("of(2)", x.of(2), 0);
                x.drop();
            }
            for (int kind = BLOCK; kind < TRY; kind++) {
                due("its SORT", x.told(marked(kind, 0), 0), 13 + kind);
            }
            due("its SORT", x.told(attempt(block(), block()), 0), 16);
        });
        sentence("Promise 7", "BAD;", () -> {
            refusedOutside("row(?)", 0, 3, BoundaryTests::block, kind -> x.row(kind));
            refusedOutside("row(?), while one is being made", 0, 3, () -> emptyRow(SWITCH), kind -> x.row(kind));
        });
        sentence("Promise 7", "NO: one is being made already.", () -> {
            for (int made = BLOCK; made <= TRY; made++) {
                for (int kind = BLOCK; kind <= TRY; kind++) {
                    int first = made;
                    int second = kind;
                    refused("row(" + kind + ") behind row(" + made + ")", NO, () -> emptyRow(first), () -> x.row(second));
                }
            }
            refused("row(0) behind parts", NO, () -> rowOf(SWITCH, empty(), 2), () -> x.row(BLOCK));
            start();
            block();
            due("row(3) when it is ended", x.row(TRY), TRY);
            x.drop();
            due("row(2) when it is dropped", x.row(RULES), RULES);
            x.clear();
            due("row(1) when all is cleared", x.row(SWITCH), SWITCH);
        });
    }

    private static void promise8() {
        sentence("Promise 8", "A part more of the row that is being made (it is FREE no more): how many it has.", () -> {
            fill(60);
            x.row(BLOCK);
            for (int n = 0; n < 60; n++) {
                due("put(" + n + ", 0)", x.put(n, 0), n + 1);
            }
            due("of(2)", x.of(2), 60);
            refusedOutside("put(?, 0) in a row of 2 of 3", 2, 2, BoundaryTests::twoOfThree, n -> x.put(n, 0));
            answeredAt("put(?, 0) in a row of 2 of 3", BoundaryTests::twoOfThree, n -> x.put(n, 0), 3, 2);
            refused("label(0, 0)", BAD, BoundaryTests::twoOfThree, () -> x.label(0, 0));
            refused("node(5, 2, 1, -1)", BAD, BoundaryTests::twoOfThree, () -> loop(WHILE, 2, 1));
        });
        sentence("Promise 8", "mark is its MARK (of a BLOCK'S 0;", () -> {
            answeredAt("put(0, ?)", () -> emptyRow(BLOCK), mark -> x.put(0, mark), 1, 0);
            refusedOutside("put(0, ?)", 0, 0, () -> emptyRow(BLOCK), mark -> x.put(0, mark));
            refusedOutside("put(2, ?) later", 0, 0, BoundaryTests::twoOfThree, mark -> x.put(2, mark));
        });
        sentence("Promise 8", "of a TRY: NONE with the first, THE BODY", () -> {
            answeredAt("put(0, ?)", () -> emptyRow(TRY), mark -> x.put(0, mark), 1, NONE);
            refusedOutside("put(0, ?)", NONE, NONE, () -> emptyRow(TRY), mark -> x.put(0, mark));
        });
        sentence("Promise 8", "then the KIND of a CATCH).", () -> {
            answeredAt("put(1, ?)", BoundaryTests::bodyOnly, kind -> x.put(1, kind), 2, 0, 1, 2, 3);
            refusedOutside("put(1, ?)", 0, 3, BoundaryTests::bodyOnly, kind -> x.put(1, kind));
            answeredAt("put(1, ?) of 12", BoundaryTests::bodyOfAllKinds, kind -> x.put(1, kind), 2, 0, 11);
            refusedOutside("put(1, ?) of 12", 0, 11, BoundaryTests::bodyOfAllKinds, kind -> x.put(1, kind));
            start();
            bodyOnly();
            due("a CATCH of 2", x.put(1, 2), 2);
            due("another one of 2", x.put(2, 2), 3);
            due("its KIND", x.told(2, 4), 2);
        });
        sentence("Promise 8", "NO: no row is being made (this first)", () -> {
            refused("put(0, 0)", NO, BoundaryTests::fourBlocks, () -> x.put(0, 0));
            refused("put(-1, 9)", NO, BoundaryTests::fourBlocks, () -> x.put(NONE, 9));
            refused("put(0, 0) of no NODES", NO, () -> { }, () -> x.put(0, 0));
            refused("put(0, 0) when it is dropped", NO, () -> {
                emptyRow(BLOCK);
                x.drop();
            }, () -> x.put(0, 0));
            refused("put(0, 0) when it is ended", NO, () -> {
                emptyRow(BLOCK);
                x.end(0);
            }, () -> x.put(0, 0));
        });
        sentence("Promise 8", "BAD:", () -> {
            for (int kind = BLOCK; kind <= TRY; kind++) {
                int of = kind;
                int mark = kind == TRY ? NONE : kind == BLOCK ? 0 : 1;
                refusedOutside("put(?, " + mark + ") of kind " + kind, 0, 3, () -> {
                    fourBlocks();
                    x.row(of);
                }, part -> x.put(part, mark));
                answeredAt("put(?, " + mark + ") of kind " + kind, () -> {
                    fourBlocks();
                    x.row(of);
                }, part -> x.put(part, mark), 1, 0, 3);
            }
        });
        sentence("Promise 8", "also a second DEFAULT.", () -> {
            for (int kind = SWITCH; kind <= RULES; kind++) {
                int of = kind;
                refused("put(0, 2) of kind " + kind, BAD, () -> {
                    block();
                    rowOf(of, block(), 2);
                }, () -> x.put(0, 2));
                answeredAt("put(0, ?) behind a DEFAULT", () -> {
                    block();
                    rowOf(of, block(), 2);
                }, mark -> x.put(0, mark), 2, 1);
            }
        });
    }

    private static void twoOfThree() {
        fill(3);
        rowOf(BLOCK, 0, 0);
        x.put(1, 0);
    }

    /** A TRY is being made of NODE 0; NODES 1, 2, 3 are BLOCKS, too. */
    private static void bodyOnly() {
        fourBlocks();
        rowOf(TRY, 0, NONE);
    }

    private static void bodyOfAllKinds() {
        allKinds();
        bodyOnly();
    }

    private static void promise9() {
        sentence("Promise 9", "The row that is being made is a NODE, and is being made no more: its number.", () -> {
            for (int kind = BLOCK; kind < TRY; kind++) {
                int made = marked(kind, 0);
                due("end(0)", made, kind);
                due("of(2)", x.of(2), NONE);
                due("what it is part of", x.told(made, 3), NONE);
            }
            rowOf(BLOCK, 0, 0);
            x.put(1, 0);
            due("end(0)", x.end(0), 3);
            due("what its parts are part of", x.told(0, 3) + x.told(1, 3), 6);
            due("end(0) again", x.end(0), NO);
        });
        sentence("Promise 9", "mark is the MARK of a SWITCH'S end", () -> {
            answeredAt("end(?) of none", () -> x.row(SWITCH), mark -> x.end(mark), 0, 0, 1, 2);
            refusedOutside("end(?) of none", 0, 2, () -> x.row(SWITCH), mark -> x.end(mark));
            answeredAt("end(?) behind a DEFAULT", () -> rowOf(SWITCH, empty(), 2), mark -> x.end(mark), 1, 0, 1);
            refusedOutside("end(?) behind a DEFAULT", 0, 1, () -> rowOf(SWITCH, empty(), 2), mark -> x.end(mark));
        });
        sentence("Promise 9", "of a TRY THE ENDING (a NODE), or NONE", () -> {
            Runnable oneCatch = () -> {
                bodyOnly();
                x.put(2, 0);
            };
            answeredAt("end(?)", oneCatch, mark -> x.end(mark), 4, NONE, 1, 3);
            refusedOutside("end(?)", NONE, 3, oneCatch, mark -> x.end(mark));
            refused("end(0), THE BODY", BAD, oneCatch, () -> x.end(0));
            refused("end(2), the CATCH", BAD, oneCatch, () -> x.end(2));
            answeredAt("end(?) of a BODY alone", BoundaryTests::bodyOnly, mark -> x.end(mark), 4, 1, 3);
            refusedOutside("end(?) of a BODY alone", 1, 3, BoundaryTests::bodyOnly, mark -> x.end(mark));
        });
        sentence("Promise 9", "of others 0.", () -> {
            for (int kind : new int[] {BLOCK, RULES}) {
                answeredAt("end(?) of kind " + kind, () -> emptyRow(kind), mark -> x.end(mark), 1, 0);
                refusedOutside("end(?) of kind " + kind, 0, 0, () -> emptyRow(kind), mark -> x.end(mark));
            }
        });
        sentence("Promise 9", "NO: no row is being made (this first)", () -> {
            refused("end(0)", NO, BoundaryTests::fourBlocks, () -> x.end(0));
            refused("end(-9)", NO, BoundaryTests::fourBlocks, () -> x.end(-9));
            refused("end(0) of no NODES", NO, () -> { }, () -> x.end(0));
            refused("end(0), full", NO, () -> fill(60), () -> x.end(0));
            refused("end(0) when it is dropped", NO, () -> {
                emptyRow(BLOCK);
                x.drop();
            }, () -> x.end(0));
        });
        sentence("Promise 9", "BAD: also a TRY without a BODY, or without a CATCH and ENDING", () -> {
            refused("end(-1) without a BODY", BAD, () -> emptyRow(TRY), () -> x.end(NONE));
            refused("end(0) without a BODY", BAD, () -> emptyRow(TRY), () -> x.end(0));
            refused("end(-1) of a BODY alone", BAD, BoundaryTests::bodyOnly, () -> x.end(NONE));
        });
        sentence("Promise 9", "a second DEFAULT;", () -> {
            refused("end(2)", BAD, () -> rowOf(SWITCH, empty(), 2), () -> x.end(2));
            refused("end(2) later", BAD, () -> {
                empty();
                rowOf(SWITCH, empty(), 2);
                x.put(0, 0);
            }, () -> x.end(2));
            answeredAt("end(?) of cases alone", () -> rowOf(SWITCH, empty(), 1), mark -> x.end(mark), 1, 2);
        });
        sentence("Promise 9", "FULL.", () -> {
            answeredAt("end(?), the last one", () -> {
                fill(59);
                rowOf(BLOCK, 58, 0);
            }, mark -> x.end(mark), 59, 0);
            oneNodeTooMany();
            start();
            fill(60);
            rowOf(SWITCH, 0, 2);
            due("end(2), a second DEFAULT", x.end(2), BAD);
            due("end(1)", x.end(1), FULL);
            due("the row stays", x.of(2), 1);
        });
    }

    private static void promise10() {
        sentence("Promise 10", "The row that is being made goes; its parts are FREE: how many.", () -> {
            for (int kind = BLOCK; kind <= TRY; kind++) {
                start();
                emptyRow(kind);
                due("drop() of none", x.drop(), 0);
                x.row(kind);
                x.put(0, kind == TRY ? NONE : kind == BLOCK ? 0 : 2);
                due("drop() of one", x.drop(), 1);
                due("of(2)", x.of(2), NONE);
                due("its MARK", x.told(0, 4), NONE);
                due("it is FREE", x.label(0, 0), 1);
            }
            start();
            fill(60);
            x.row(BLOCK);
            for (int n = 0; n < 60; n++) {
                x.put(n, 0);
            }
            due("drop() of all", x.drop(), 60);
            rowOf(SWITCH, 0, 2);
            x.drop();
            x.row(SWITCH);
            due("the DEFAULT went, too", x.put(1, 2), 1);
        });
        sentence("Promise 10", "its parts are FREE", () -> {
            for (Supplier<List<Integer>> probe : PROBES) {
                anew(BoundaryTests::fourBlocks);
                List<Integer> without = probe.get();
                anew(() -> {
                    bodyOnly();
                    x.put(3, 2);
                    x.drop();
                });
                due("as before the row", probe.get().equals(without), true);
            }
        });
        sentence("Promise 10", "NO: none is.", () -> {
            refused("drop() of no NODES", NO, () -> { }, () -> x.drop());
            refused("drop()", NO, BoundaryTests::fourBlocks, () -> x.drop());
            refused("drop() again", NO, () -> {
                twoOfThree();
                x.drop();
            }, () -> x.drop());
            refused("drop() of what is ended", NO, () -> {
                twoOfThree();
                x.end(0);
            }, () -> x.drop());
        });
    }

    private static void promise11() {
        sentence("Promise 11", "what = 0 its SORT", () -> {
            for (int sort = 0; sort <= 16; sort++) {
                start();
                due("SORT", x.told(ofSort(sort), 0), sort);
            }
        });
        sentence("Promise 11", "1 its TEST, NAME, KIND, value as it was given (of others 0)", () -> {
            allKinds();
            for (int test = 0; test < 3; test++) {
                due("TEST of an IF", x.told(either(test, empty(), NONE), 1), test);
                due("TEST of a WHILE", x.told(loop(WHILE, test, empty()), 1), test);
                due("TEST of a DO", x.told(loop(DO, test, empty()), 1), test);
            }
            for (int test = 0; test < 4; test++) {
                due("TEST of a FOR", x.told(loop(FOR, test, empty()), 1), test);
            }
            for (int name : new int[] {NONE, 0, 5}) {
                due("NAME of a BREAK", x.told(x.jump(0, name), 1), name);
                due("NAME of a CONTINUE", x.told(x.jump(1, name), 1), name);
            }
            due("NAME of a LABEL", x.told(x.label(0, empty()), 1), 0);
            due("NAME of a LABEL", x.told(x.label(5, empty()), 1), 5);
            for (int kind : new int[] {NONE, 0, 11}) {
                due("KIND of an ACT", x.told(act(kind), 1), kind);
            }
            start();
            for (int n = 0; n < 2; n++) {
                due("KIND of a THROW", x.told(raise(3 * n), 1), 3 * n);
                due("value of a RETURN", x.told(give(n), 1), n);
            }
            for (int sort : new int[] {EMPTY, EACH, LOCK, 13, 14, 15, 16}) {
                due("SORT " + sort, x.told(ofSort(sort), 1), 0);
            }
            due("a SWITCH with a MARK at its end", x.told(marked(SWITCH, 2), 1), 0);
        });
        sentence("Promise 11", "2 how many parts", () -> {
            for (int sort : new int[] {EMPTY, ACT, THROW, RETURN, 10, 11, 13, 14, 15}) {
                due("parts of SORT " + sort, x.told(ofSort(sort), 2), 0);
            }
            for (int sort : new int[] {IF, WHILE, DO, FOR, EACH, LOCK, 12}) {
                due("parts of SORT " + sort, x.told(ofSort(sort), 2), 1);
            }
            due("parts of an IF", x.told(either(0, empty(), empty()), 2), 2);
            due("parts of a TRY", x.told(attempt(block(), block()), 2), 2);
            due("parts of a TRY", x.told(attempt(block(), NONE, block(), 0), 2), 2);
            due("parts of a TRY", x.told(attempt(block(), block(), block(), 0), 2), 3);
            start();
            fill(59);
            x.row(BLOCK);
            for (int n = 0; n < 59; n++) {
                x.put(n, 0);
            }
            due("parts of a BLOCK", x.told(x.end(0), 2), 59);
        });
        sentence("Promise 11", "3 what it is part of (NONE; NONE, too, in the row that is being made)", () -> {
            bodyOnly();
            x.put(1, 0);
            due("THE BODY in the row", x.told(0, 3), NONE);
            due("a CATCH in the row", x.told(1, 3), NONE);
            due("one beside it", x.told(2, 3), NONE);
            int whole = x.end(2);
            for (int n = 0; n < 3; n++) {
                due("a part of the TRY", x.told(n, 3), whole);
            }
            due("the TRY", x.told(whole, 3), NONE);
            due("the LABEL around it", x.label(0, whole), whole + 1);
            due("the TRY now", x.told(whole, 3), whole + 1);
            due("its BODY still", x.told(0, 3), whole);
        });
        sentence("Promise 11", "4 its MARK in a SWITCH, RULES, or the KIND of a CATCH (in the row that is being made, too), else NONE.",
            BoundaryTests::toldMarks);
        sentence("Promise 11", "BAD.", () -> {
            refusedOutside("told(?, 0)", 0, 3, BoundaryTests::bodyOnly, n -> x.told(n, 0));
            refusedOutside("told(3, ?)", 0, 4, BoundaryTests::bodyOnly, what -> x.told(3, what));
            refused("told(0, 0) of no NODES", BAD, () -> { }, () -> x.told(0, 0));
            answeredAt("told(?, 0)", BoundaryTests::bodyOnly, n -> x.told(n, 0), 13, 0, 3);
            start();
            fill(60);
            due("told(59, 4)", x.told(59, 4), NONE);
            due("told(60, 0)", x.told(60, 0), BAD);
        });
    }

    private static void toldMarks() {
        for (int kind = SWITCH; kind <= RULES; kind++) {
            start();
            int[] n = {act(NONE), act(NONE), act(NONE)};
            int[] marks = {1, kind == SWITCH ? 0 : 1, 2};
            x.row(kind);
            for (int i = 0; i < 3; i++) {
                due("one beside it", x.told(n[i], 4), NONE);
                x.put(n[i], marks[i]);
                due("a MARK in the row", x.told(n[i], 4), marks[i]);
            }
            x.end(0);
            for (int i = 0; i < 3; i++) {
                due("a MARK", x.told(n[i], 4), marks[i]);
            }
        }
        start();
        bodyOfAllKinds();
        x.put(1, 0);
        x.put(2, 11);
        int[] marks = {NONE, 0, 11, NONE};
        for (int n = 0; n < 4; n++) {
            due("the KIND in the row, of " + n, x.told(n, 4), marks[n]);
        }
        int whole = x.end(3);
        for (int n = 0; n < 4; n++) {
            due("the KIND of " + n, x.told(n, 4), marks[n]);
        }
        due("that of the TRY", x.told(whole, 4), NONE);
        rowOf(BLOCK, whole, 0);
        due("in a BLOCK that is being made", x.told(whole, 4), NONE);
        x.end(0);
        due("in a BLOCK", x.told(whole, 4), NONE);
    }

    private static void promise12() {
        sentence("Promise 12", "Part i of a NODE, as they stand.", () -> {
            int[] n = {block(), block(), block(), block(), empty(), empty()};
            int whole = attempt(n[3], n[0], n[2], 2, n[1], 3);
            int[] parts = {n[3], n[2], n[1], n[0]};
            for (int i = 0; i < 4; i++) {
                due("part(" + whole + ", " + i + ")", x.part(whole, i), parts[i]);
            }
            int two = either(2, n[5], n[4]);
            due("the first of an IF", x.part(two, 0), n[5]);
            due("the second of an IF", x.part(two, 1), n[4]);
            start();
            fill(59);
            x.row(BLOCK);
            for (int i = 58; i >= 0; i--) {
                x.put(i, 0);
            }
            x.end(0);
            for (int i = 0; i < 59; i++) {
                due("part(59, " + i + ")", x.part(59, i), 58 - i);
            }
        });
        sentence("Promise 12", "BAD.", () -> {
            Runnable made = () -> {
                fourBlocks();
                attempt(0, 1, 2, 3);
            };
            refusedOutside("part(4, ?)", 0, 2, made, i -> x.part(4, i));
            refusedOutside("part(?, 0)", 4, 4, made, n -> x.part(n, 0));
            refused("part(0, 0) of no NODES", BAD, () -> { }, () -> x.part(0, 0));
            for (int sort : new int[] {EMPTY, ACT, THROW, RETURN, 10, 11, 13, 14, 15}) {
                refusedOutside("part(0, ?) of SORT " + sort, 1, 0, () -> ofSort(sort), i -> x.part(0, i));
            }
            for (int sort : new int[] {IF, WHILE, DO, FOR, EACH, LOCK, 12}) {
                refused("part(1, 1) of SORT " + sort, BAD, () -> ofSort(sort), () -> x.part(1, 1));
                refused("part(1, -1) of SORT " + sort, BAD, () -> ofSort(sort), () -> x.part(1, NONE));
            }
        });
    }

    private static void promise13() {
        sentence("Promise 13", "0 how many NODES, 1 KINDS", () -> {
            due("of(0) at first", x.of(0), 0);
            due("of(1) at first", x.of(1), 4);
            allKinds();
            fill(60);
            due("of(0) when full", x.of(0), 60);
            due("of(1) when full", x.of(1), 12);
            empty();
            x.exception(0);
            due("of(0) after a refusal", x.of(0), 60);
            due("of(1) after a refusal", x.of(1), 12);
        });
        sentence("Promise 13", "2 parts of the row that is being made (NONE: none is)", () -> {
            due("of(2) at first", x.of(2), NONE);
            fill(60);
            x.row(BLOCK);
            for (int n = 0; n < 60; n++) {
                due("of(2)", x.of(2), n);
                x.put(n, 0);
            }
            due("of(2) of all", x.of(2), 60);
            x.end(0);
            due("of(2) when end() is refused", x.of(2), 60);
            x.drop();
            due("of(2) when it is dropped", x.of(2), NONE);
            start();
            bodyOnly();
            due("of(2) of a BODY", x.of(2), 1);
            x.end(1);
            due("of(2) when it is ended", x.of(2), NONE);
        });
        sentence("Promise 13", "3 THE ROOT that was looked at last (NONE).", () -> {
            due("of(3) at first", x.of(3), NONE);
            fill(60);
            look(0);
            due("of(3) of the first", x.of(3), 0);
            look(59);
            due("of(3) of the last", x.of(3), 59);
            x.member(7, 0);
            due("of(3) by member()", x.of(3), 7);
            x.check(60);
            x.member(8, 4);
            due("of(3) after refusals", x.of(3), 7);
            x.clear();
            due("of(3) after clear()", x.of(3), NONE);
        });
        sentence("Promise 13", "BAD.", () -> refusedOutside("of(?)", 0, 3, BoundaryTests::bodyOnly, what -> x.of(what)));
    }

    /** A LOOP with a FAULT and a NOTE in it is looked at; NODES and a KIND come later. */
    private static void lookedAt() {
        int stray = x.jump(0, 0);
        int never = either(0, act(1), NONE);
        look(loop(WHILE, 2, block(never, stray)));
        x.exception(1);
        again();
    }

    private static void promise14() {
        sentence("Promise 14", "A NODE is looked at as THE ROOT (with the KINDS that there are): how many FAULTS.", () -> {
            int thrower = raise(1);
            due("check()", x.check(thrower), 0);
            ended(thrower, "K1 K2");
            x.exception(2);
            ended(thrower, "K1 K2");
            due("check() again", x.check(thrower), 0);
            ended(thrower, "K1 K2 K4");
            start();
            for (int i = 0; i < 59; i++) {
                leave();
            }
            x.row(BLOCK);
            for (int i = 0; i < 59; i++) {
                x.put(i, 0);
            }
            due("check() of 59 BREAKS", x.check(x.end(0)), 60);
            due("check() of one", x.check(58), 1);
            int root = mostFaults();
            due("check() of more FAULTS than NODES", x.check(root), 88);
            due("the last FAULT", x.fault(87, 1), 58);
            due("check() of a row's part", checkInRow(), 0);
        });
        sentence("Promise 14", "BAD.", () -> {
            refusedOutside("check(?)", 0, 5, BoundaryTests::lookedAt, root -> x.check(root));
            refused("check(0) of no NODES", BAD, () -> { }, () -> x.check(0));
            start();
            fill(60);
            due("check(59)", x.check(59), 0);
            due("check(60)", x.check(60), BAD);
        });
        sentence("Promise 14", "What comes from here on is told of the one that was looked at last", () -> {
            int inner = give(0);
            int whole = loop(WHILE, 0, inner);
            look(whole);
            reached(false, inner);
            look(inner);
            reached(true, inner);
            due("no FAULT", x.fault(0, 0), BAD);
            look(whole);
            due("a FAULT", x.fault(0, 1), inner);
            int around = x.label(0, whole);
            reached(true, whole);
            reached(false, around, inner);
            due("THE ROOT stays", x.of(3), whole);
            for (int first = 0; first < 28; first++) {
                for (int last = 0; last < 28; last++) {
                    lookOneAfterAnother(first, last);
                }
            }
        });
        sentence("Promise 14", "of NODES that are not in it, and when none was: false, 0, NONE", () -> {
            Runnable none = () -> {
                int stop = leave();
                loop(WHILE, 2, block(act(1), stop));
                empty();
            };
            anew(none);
            asOfNone(0, 4);
            anew(none);
            look(4);
            asOfNone(0, 3);
            anew(none);
            look(1);
            asOfNone(0, 0);
            asOfNone(2, 4);
            anew(none);
            look(3);
            x.clear();
            none.run();
            asOfNone(0, 4);
        });
        sentence("Promise 14", "of KINDS that came later 0.", () -> {
            int thrower = raise(0);
            look(thrower);
            due("can() of none", x.can(thrower, 4), BAD);
            due("ends() by none", x.ends(thrower, 4, 4), BAD);
            for (int k = 4; k < 12; k++) {
                x.exception(0);
                due("can() of one that came later", x.can(thrower, k), 0);
                due("ends() by one that came later", x.ends(thrower, 4, k), 0);
            }
            due("ends() by the last that was there", x.ends(thrower, 4, 3), 1);
            int last = act(11);
            due("ends() of one that came later, too", x.ends(last, 4, 11), 0);
            look(last);
            due("can() when it is looked at", x.can(last, 11), 1);
            due("ends() when it is looked at", x.ends(last, 4, 11), 1);
        });
    }

    /** A SWITCH of 59 CONTINUES without a TARGET, every other one not REACHED. */
    private static int mostFaults() {
        start();
        for (int i = 0; i < 59; i++) {
            again();
        }
        x.row(SWITCH);
        for (int i = 0; i < 59; i++) {
            x.put(i, (i + 1) % 2);
        }
        return x.end(0);
    }

    private static void lookOneAfterAnother(int first, int last) {
        sameAnswers("of " + last + ", when " + first + " was looked at before,", () -> {
            tangled();
            look(last);
        }, () -> {
            tangled();
            look(first);
            look(last);
        });
    }

    private static int checkInRow() {
        start();
        twoOfThree();
        return x.check(1);
    }

    private static void asOfNone(int first, int last) {
        for (int n = first; n <= last; n++) {
            reached(false, n);
            completes(false, n);
            walked(false, n);
            throwing(n, "");
            ended(n, "");
            due("target(" + n + ")", x.target(n), NONE);
        }
    }

    private static void promise15() {
        sentence("Promise 15", "FAULT i: what = 0 which it is, 1 its NODE.", () -> {
            for (int i = 0; i < 59; i++) {
                leave();
            }
            x.row(BLOCK);
            for (int i = 58; i >= 0; i--) {
                x.put(i, 0);
            }
            look(x.end(0));
            int[][] dues = {{0, 2, 58}, {1, 1, 57}, {2, 2, 57}, {3, 2, 56}, {58, 2, 1}, {59, 2, 0}};
            for (int[] d : dues) {
                due("fault(" + d[0] + ", 0)", x.fault(d[0], 0), d[1]);
                due("fault(" + d[0] + ", 1)", x.fault(d[0], 1), d[2]);
            }
            due("fault(60, 0)", x.fault(60, 0), BAD);
            due("fault(60, 1)", x.fault(60, 1), BAD);
        });
        sentence("Promise 15", "BAD.", () -> {
            refusedOutside("fault(?, 0)", 0, 0, BoundaryTests::lookedAt, i -> x.fault(i, 0));
            refusedOutside("fault(?, 1)", 0, 0, BoundaryTests::lookedAt, i -> x.fault(i, 1));
            refusedOutside("fault(0, ?)", 0, 1, BoundaryTests::lookedAt, what -> x.fault(0, what));
            answeredAt("fault(?, 0)", BoundaryTests::lookedAt, i -> x.fault(i, 0), 2, 0);
            refused("fault(0, 0) of a ROOT without", BAD, () -> look(empty()), () -> x.fault(0, 0));
            refused("fault(0, 1) of a ROOT without", BAD, () -> look(empty()), () -> x.fault(0, 1));
            refused("fault(0, 0) of those before", BAD, () -> {
                lookedAt();
                look(1);
            }, () -> x.fault(0, 0));
        });
    }

    private static void promise16() {
        sentence("Promise 16", "How many NOTES.", () -> {
            due("notes() at first", x.notes(), 0);
            look(empty());
            due("notes() of none", x.notes(), 0);
            look(either(0, 0, NONE));
            due("notes() of one", x.notes(), 1);
            manyNotes();
            due("notes() of 57", x.notes(), 57);
            look(0);
            due("notes() of another ROOT", x.notes(), 0);
        });
    }

    private static void promise17() {
        sentence("Promise 17", "NOTE i: a NODE.", () -> {
            manyNotes();
            for (int i = 0; i < 57; i++) {
                due("note(" + i + ")", x.note(i), i + 2);
            }
            due("note(57)", x.note(57), BAD);
        });
        sentence("Promise 17", "BAD.", () -> {
            refusedOutside("note(?)", 0, 0, BoundaryTests::lookedAt, i -> x.note(i));
            answeredAt("note(?)", BoundaryTests::lookedAt, i -> x.note(i), 1, 0);
            refused("note(0) of a ROOT without", BAD, () -> look(empty()), () -> x.note(0));
            refused("note(0) of those before", BAD, () -> {
                lookedAt();
                look(1);
            }, () -> x.note(0));
        });
    }

    /** A BLOCK of 58 parts; by its first one all WALKS return. */
    private static void manyNotes() {
        start();
        give(0);
        either(1, 0, NONE);
        fill(59);
        x.row(BLOCK);
        for (int n = 1; n < 59; n++) {
            x.put(n, 0);
        }
        look(x.end(0));
    }

    private static void promise18() {
        sentence("Promise 18", "Whether a NODE is REACHED.", () -> {
            falseOutside("reached", n -> x.reached(n) ? 1 : 0);
            fill(59);
            look(x.label(0, 58));
            reached(true, 58, 59);
            reached(false, 57, 60);
        });
    }

    private static void promise19() {
        sentence("Promise 19", "Whether a NODE COMPLETES.", () -> {
            falseOutside("completes", n -> x.completes(n) ? 1 : 0);
            fill(59);
            look(x.label(0, 58));
            completes(true, 58, 59);
            completes(false, 57, 60);
        });
    }

    private static void promise20() {
        sentence("Promise 20", "Whether a NODE CAN THROW a KIND: 1, 0.", () -> {
            allKinds();
            for (int k = 0; k < 12; k++) {
                int thrower = raise(k);
                look(thrower);
                throwing(thrower, "" + k);
            }
            due("another NODE", x.can(0, 0), 0);
        });
        sentence("Promise 20", "BAD.", () -> {
            refusedOutside("can(?, 1)", 0, 5, BoundaryTests::lookedAt, n -> x.can(n, 1));
            refusedOutside("can(0, ?)", 0, 4, BoundaryTests::lookedAt, k -> x.can(0, k));
            answeredAt("can(1, ?)", BoundaryTests::lookedAt, k -> x.can(1, k), 0, 0, 2, 3, 4);
            answeredAt("can(?, 1)", BoundaryTests::lookedAt, n -> x.can(n, 1), 1, 1, 2, 3, 4);
            answeredAt("can(?, 1)", BoundaryTests::lookedAt, n -> x.can(n, 1), 0, 0, 5);
            refused("can(0, 0) of no NODES", BAD, () -> { }, () -> x.can(0, 0));
        });
    }

    /** A call that answers true or false is never refused; of what is no NODE it answers false. */
    private static void falseOutside(String call, IntUnaryOperator asked) {
        for (int n : outside(0, 5)) {
            anew(BoundaryTests::lookedAt);
            due(call + "(" + n + ")", asked.applyAsInt(n), 0);
            changesNothing(call + "(" + n + ")", BoundaryTests::lookedAt, () -> asked.applyAsInt(n));
        }
        start();
        due(call + "(0) of no NODES", asked.applyAsInt(0), 0);
    }

    private static void promise21() {
        sentence("Promise 21", "THE TARGET of a BREAK, CONTINUE; NONE: also of another NODE.", () -> {
            int jump = x.jump(1, 5);
            int deep = jump;
            for (int n = 1; n < 58; n++) {
                deep = either(2, deep, NONE);
            }
            deep = loop(EACH, 0, deep);
            look(x.label(5, deep));
            due("target(0) from the deepest place", x.target(jump), 58);
            for (int n = 1; n < 60; n++) {
                due("target(" + n + ")", x.target(n), NONE);
            }
            look(57);
            due("target(0) within a part", x.target(jump), NONE);
        });
        sentence("Promise 21", "BAD.", () -> {
            refusedOutside("target(?)", 0, 5, BoundaryTests::lookedAt, n -> x.target(n));
            answeredAt("target(?)", BoundaryTests::lookedAt, n -> x.target(n), NONE, 0, 1, 2, 3, 4, 5);
            refused("target(0) of no NODES", BAD, () -> { }, () -> x.target(0));
        });
    }

    private static void promise22() {
        sentence("Promise 22", "Whether some WALK comes to a NODE.", () -> {
            falseOutside("walked", n -> x.walked(n) ? 1 : 0);
            fill(59);
            look(x.label(0, 58));
            walked(true, 58, 59);
            walked(false, 57, 60);
        });
    }

    private static void promise23() {
        sentence("Promise 23", "how = 0 NORMALLY, 1 by RETURN (which 0 with both)", () -> {
            for (int how = 0; how < 2; how++) {
                int of = how;
                refusedOutside("ends(0, " + how + ", ?)", 0, 0, BoundaryTests::lookedAt, which -> x.ends(0, of, which));
            }
            refusedOutside("ends(4, ?, 0)", 0, 4, BoundaryTests::lookedAt, how -> x.ends(4, how, 0));
            start();
            look(either(2, give(0), NONE));
            due("ends(1, 0, 0)", x.ends(1, 0, 0), 1);
            due("ends(1, 1, 0)", x.ends(1, 1, 0), 1);
            due("ends(0, 0, 0)", x.ends(0, 0, 0), 0);
            due("ends(0, 1, 0)", x.ends(0, 1, 0), 1);
        });
        sentence("Promise 23", "2 by a BREAK, 3 by a CONTINUE to NODE which", () -> {
            for (int how = 2; how < 4; how++) {
                int of = how;
                refusedOutside("ends(4, " + how + ", ?)", 0, 5, BoundaryTests::lookedAt, which -> x.ends(4, of, which));
                answeredAt("ends(4, " + how + ", ?)", BoundaryTests::lookedAt, which -> x.ends(4, of, which), 0, 0, 1, 2, 3, 4, 5);
                start();
                int jump = x.jump(how - 2, how == 2 ? 5 : NONE);
                int deep = jump;
                for (int n = 1; n < 59; n++) {
                    deep = either(2, deep, NONE);
                }
                look(how == 2 ? x.label(5, deep) : loop(WHILE, 1, deep));
                for (int n = 0; n < 59; n++) {
                    due("ends(" + n + ", " + how + ", 59)", x.ends(n, how, 59), 1);
                    due("ends(" + n + ", " + (5 - how) + ", 59)", x.ends(n, 5 - how, 59), 0);
                }
                due("ends(59, " + how + ", 59)", x.ends(59, how, 59), 0);
                due("ends(59, 0, 0)", x.ends(59, 0, 0), how == 2 ? 1 : 0);
            }
        });
        sentence("Promise 23", "4 by KIND which: 1, 0.", () -> {
            refusedOutside("ends(1, 4, ?)", 0, 4, BoundaryTests::lookedAt, which -> x.ends(1, 4, which));
            start();
            allKinds();
            look(act(0));
            ended(0, "N K0 K1 K2 K3 K4 K5 K6 K7 K8 K9 K10 K11");
            due("ends(0, 4, 12)", x.ends(0, 4, 12), BAD);
        });
        sentence("Promise 23", "BAD.", () -> {
            for (int how = 0; how < 5; how++) {
                int of = how;
                refusedOutside("ends(?, " + how + ", 0)", 0, 5, BoundaryTests::lookedAt, n -> x.ends(n, of, 0));
            }
            refused("ends(0, 0, 0) of no NODES", BAD, () -> { }, () -> x.ends(0, 0, 0));
        });
        sentence("Promise 23", "Whether some WALK comes to a NODE, and it is ended", () -> {
            int never = give(0);
            int whole = either(0, never, NONE);
            look(whole);
            ended(never, "");
            ended(whole, "N");
            look(never);
            ended(never, "R");
            ended(whole, "");
        });
    }

    private static void promise24() {
        sentence("Promise 24", "A NODE is looked at as THE ROOT, as check() does", () -> {
            int stray = leave();
            int whole = either(0, stray, NONE);
            for (int result = 0; result < 4; result++) {
                look(stray);
                due("member()", x.member(whole, result), 2);
                due("of(3)", x.of(3), whole);
                due("fault(0, 1)", x.fault(0, 1), stray);
                due("note(0)", x.note(0), stray);
                reached(true, stray, whole);
                walked(false, stray);
                completes(true, whole);
            }
        });
        sentence("Promise 24", "has to give nothing (result 0), a value (1), is a start (2), or the body of a function that may do either"
            + " (3)", () -> {
            String[] shapes = {"N", "0", "1", "K", "0N", "1N", "01", "01N", "1K", "0K"};
            String[] dues = {"0700", "0660", "6060", "0080", "0660", "6769", "6669", "6669", "6060", "0660"};
            for (int i = 0; i < shapes.length; i++) {
                for (int result = 0; result < 4; result++) {
                    start();
                    int body = bodyOfShape(shapes[i]);
                    due("member() of " + shapes[i] + " with " + result, x.member(body, result), dues[i].charAt(result) - '0');
                    due("of(3)", x.of(3), body);
                }
            }
        });
        sentence("Promise 24", "0 if all is well;", () -> {
            int[] roots = {empty(), give(1), block(), either(2, give(0), NONE)};
            for (int result = 0; result < 4; result++) {
                due("member() with " + result, x.member(roots[result], result), 0);
            }
        });
        sentence("Promise 24", "else the first FAULT; without FAULTS:", () -> {
            x.exception(1);
            int[] c = {block(), block()};
            int lost = empty();
            int stray = leave();
            int twice = x.label(0, give(1));
            int[] roots = {loop(WHILE, 0, lost), stray, attempt(block(), NONE, c[0], 2, c[1], 2),
                attempt(block(), NONE, block(), 4), x.label(0, twice)};
            for (int result = 0; result < 4; result++) {
                for (int i = 0; i < 5; i++) {
                    due("member() of FAULT " + (i + 1), x.member(roots[i], result), i + 1);
                }
            }
            int both = block(roots[4], roots[0]);
            due("the first of two", x.member(both, 0), 5);
        });
        sentence("Promise 24", "6 a RETURN with a value with 0, without one with 1, any with 2", () -> {
            int[] gives = {either(1, empty(), give(0)), either(1, empty(), give(1))};
            int[][] dues = {{0, 6, 6}, {6, 7, 6}};
            for (int value = 0; value < 2; value++) {
                for (int result = 0; result < 3; result++) {
                    due("a RETURN that no WALK comes to", x.member(gives[value], result), dues[value][result]);
                }
            }
            int[][] alone = {{0, 6, 6}, {6, 0, 6}};
            for (int value = 0; value < 2; value++) {
                int root = give(value);
                for (int result = 0; result < 3; result++) {
                    due("a RETURN as THE ROOT", x.member(root, result), alone[value][result]);
                }
            }
            due("one beside them", x.member(empty(), 2), 0);
            fill(60);
            due("one beside them, full", x.member(59, 0), 0);
            start();
            fill(59);
            x.row(BLOCK);
            for (int n = 0; n < 59; n++) {
                x.put(n, 0);
            }
            due("all NODES, and no RETURN", x.member(x.end(0), 2), 0);
        });
        sentence("Promise 24", "7 it COMPLETES with 1; 8 it does not COMPLETE with 2", () -> {
            int open = either(1, raise(2), NONE);
            due("COMPLETES by THE RULES alone, with 1", x.member(open, 1), 7);
            due("COMPLETES by THE RULES alone, with 2", x.member(open, 2), 0);
            int endless = loop(FOR, 3, empty());
            due("an endless one with 0", x.member(endless, 0), 0);
            due("an endless one with 1", x.member(endless, 1), 0);
            due("an endless one with 2", x.member(endless, 2), 8);
            due("an endless one with 3", x.member(endless, 3), 0);
        });
        sentence("Promise 24", "9 with 3: RETURNS with a value and without are there, or one with a value is, and it COMPLETES.", () -> {
            due("both", x.member(either(2, give(0), give(1)), 3), 9);
            due("both, and it COMPLETES", x.member(either(2, either(2, give(0), give(1)), NONE), 3), 9);
            due("a value, and it COMPLETES", x.member(either(2, give(1), NONE), 3), 9);
            due("a value", x.member(give(1), 3), 0);
            due("none, and it COMPLETES", x.member(either(2, give(0), NONE), 3), 0);
            due("none", x.member(give(0), 3), 0);
        });
        sentence("Promise 24", "BAD.", () -> {
            refusedOutside("member(?, 0)", 0, 5, BoundaryTests::lookedAt, root -> x.member(root, 0));
            refusedOutside("member(1, ?)", 0, 3, BoundaryTests::lookedAt, result -> x.member(1, result));
            refused("member(0, 0) of no NODES", BAD, () -> { }, () -> x.member(0, 0));
            answeredAt("member(1, ?)", BoundaryTests::lookedAt, result -> x.member(1, result), 0, 0, 2, 3);
            answeredAt("member(?, 0)", BoundaryTests::lookedAt, root -> x.member(root, 0), 2, 0, 3, 4, 5);
        });
    }

    /** A BLOCK that has RETURNS without (0), with a value (1), ends by a KIND (K) or COMPLETES (N). */
    private static int bodyOfShape(String shape) {
        List<Integer> parts = new ArrayList<>();
        if (shape.contains("0")) {
            parts.add(either(2, give(0), NONE));
        }
        if (shape.contains("1")) {
            parts.add(either(2, give(1), NONE));
        }
        if (shape.contains("K")) {
            parts.add(raise(0));
        } else if (!shape.contains("N")) {
            parts.add(give(shape.charAt(0) - '0'));
        }
        return block(parts.stream().mapToInt(part -> part).toArray());
    }

    public static void main(String[] args) throws IOException {
        if (Files.exists(DOCUMENT)) {
            document = Files.readString(DOCUMENT).replaceAll("\\s+", " ");
        }
        objects();
        nodesAndParts();
        testsAndNames();
        rows();
        kindsOfExceptions();
        targets();
        rulesOfSimple();
        rulesOfLoops();
        rulesOfRows();
        rulesOfTries();
        rulesOfThrowing();
        walksOfSimple();
        walksOfLoops();
        walksOfRows();
        walksOfTries();
        faultsAndNotes();
        refusals();
        promise1();
        promise2();
        promise3();
        promise4();
        promise5();
        promise6();
        promise7();
        promise8();
        promise9();
        promise10();
        promise11();
        promise12();
        promise13();
        promise14();
        promise15();
        promise16();
        promise17();
        promise18();
        promise19();
        promise20();
        promise21();
        promise22();
        promise23();
        promise24();
        now = "";
        due("places of the document that have tests", places.size(), 25);
        System.out.println(sentences + " sentences");
        System.out.println(wrong == 0 ? "all answers are as due" : wrong + " answers are not as due");
        if (wrong != 0) {
            System.exit(1);
        }
    }
}
