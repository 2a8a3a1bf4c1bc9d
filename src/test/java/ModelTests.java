import java.util.ArrayList;
import java.util.HashSet;
import java.util.List;
import java.util.Random;
import java.util.Set;

/**
 * Trees made at random (from told seeds, so always the same ones), compared with a model that says
 * the document's rules word by word as one fixed point, and with walks made step by step. No object is used for more
 * than 512 calls.
 */
public final class ModelTests {
    private static final int NONE = -1;
    private static final int EMPTY = 0, ACT = 1, THROW = 2, RETURN = 3, IF = 4, WHILE = 5, DO = 6, FOR = 7, EACH = 8,
        LOCK = 9, BREAK = 10, CONTINUE = 11, LABEL = 12, BLOCK = 13, SWITCH = 14, RULES = 15, TRY = 16;
    private static int wrong = 0;
    private static int whole = 0;

    private static void due(String what, long got, long want) {
        if (got != want) {
            wrong++;
            if (wrong < 50) {
                System.out.println(what + " answered " + got + ", due is " + want);
            }
        }
    }

    private static void due(String what, boolean got, boolean want) {
        due(what, got ? 1 : 0, want ? 1 : 0);
    }

    private static final class Node {
        final int sort;
        int value;
        final List<Node> parts = new ArrayList<>();
        int mark = NONE;
        int endMark = 0;
        boolean ending;
        Node up;
        int number = NONE;
        boolean reached, completes;
        final Set<Integer> throwing = new HashSet<>();

        Node(int sort, int value) {
            this.sort = sort;
            this.value = value;
        }

        Node with(Node part) {
            parts.add(part);
            part.up = this;
            return this;
        }

        boolean isLoop() {
            return sort == WHILE || sort == DO || sort == FOR || sort == EACH;
        }

        boolean isJump() {
            return sort == BREAK || sort == CONTINUE;
        }

        boolean isCatch() {
            return up != null && up.sort == TRY && mark != NONE;
        }

        Node ending() {
            return ending ? parts.get(parts.size() - 1) : null;
        }

        Node last() {
            return parts.get(parts.size() - 1);
        }

        int test() {
            return sort == EACH ? 2 : value == 3 ? 1 : value;
        }

        boolean hasDefault() {
            boolean found = endMark == 2;
            for (Node part : parts) {
                found |= part.mark == 2;
            }
            return found;
        }

        Node before() {
            int i = up.parts.indexOf(this);
            return i == 0 ? null : up.parts.get(i - 1);
        }

        int size() {
            int size = 1;
            for (Node part : parts) {
                size += part.size();
            }
            return size;
        }
    }

    // ---- KINDS

    private static int[] above;

    private static boolean below(int k, int c) {
        return k == c || above[k] != NONE && below(above[k], c);
    }

    private static boolean unchecked(int c) {
        return below(c, 2) || below(c, 3);
    }

    // ---- trees at random

    private static Random random;
    private static int left;

    private static int upTo(int n) {
        return random.nextInt(n);
    }

    private static Node simple() {
        left--;
        switch (upTo(9)) {
            case 0:
                return new Node(EMPTY, 0);
            case 1:
            case 2:
                return new Node(ACT, upTo(4) == 0 ? NONE : upTo(above.length));
            case 3:
                return new Node(THROW, upTo(above.length));
            case 4:
                return new Node(RETURN, upTo(2));
            case 5:
            case 6:
                return new Node(BREAK, upTo(2) == 0 ? NONE : upTo(3));
            default:
                return new Node(CONTINUE, upTo(2) == 0 ? NONE : upTo(3));
        }
    }

    private static Node block(int depth) {
        left--;
        Node made = new Node(BLOCK, 0);
        int parts = upTo(4);
        for (int i = 0; i < parts && left > 0; i++) {
            made.with(any(depth - 1));
        }
        return made;
    }

    private static Node any(int depth) {
        if (depth <= 0 || left <= 2) {
            return simple();
        }
        int sort = 1 + upTo(16);
        switch (sort) {
            case IF:
                left--;
                Node made = new Node(IF, upTo(3)).with(any(depth - 1));
                return left > 0 && upTo(2) == 0 ? made.with(any(depth - 1)) : made;
            case WHILE:
            case DO:
            case FOR:
                left--;
                return new Node(sort, upTo(sort == FOR ? 4 : 3)).with(any(depth - 1));
            case EACH:
                left--;
                return new Node(EACH, 0).with(any(depth - 1));
            case LOCK:
                left--;
                return new Node(LOCK, 0).with(block(depth - 1));
            case LABEL:
                left--;
                return new Node(LABEL, upTo(3)).with(any(depth - 1));
            case BLOCK:
                return block(depth);
            case SWITCH:
                return switchRow(depth);
            case RULES:
                return rulesRow(depth);
            case TRY:
                return attempt(depth);
            default:
                return simple();
        }
    }

    /** A tree of half of that many NODES at least, but for few. */
    private static Node treeOf(int most) {
        Node made = null;
        for (int tries = 0; made == null || tries < 100 && 2 * made.size() < most || made.size() > 60; tries++) {
            left = most;
            made = any(3 + upTo(10));
        }
        return made;
    }

    private static Node switchRow(int depth) {
        left--;
        Node made = new Node(SWITCH, 0);
        int parts = upTo(5);
        int theDefault = upTo(7);
        for (int i = 0; i < parts && left > 0; i++) {
            Node part = any(depth - 1);
            part.mark = i == theDefault ? 2 : i == 0 ? 1 : upTo(2);
            made.with(part);
        }
        made.endMark = made.hasDefault() ? upTo(3) / 2 : upTo(4) == 0 ? 2 : upTo(3) / 2;
        return made;
    }

    private static Node rulesRow(int depth) {
        left--;
        Node made = new Node(RULES, 0);
        int parts = upTo(4);
        int theDefault = upTo(5);
        for (int i = 0; i < parts && left > 0; i++) {
            Node part;
            if (upTo(3) > 0) {
                part = block(depth - 1);
            } else {
                left--;
                part = new Node(upTo(2) == 0 ? ACT : THROW, upTo(above.length));
            }
            part.mark = i == theDefault ? 2 : 1;
            made.with(part);
        }
        return made;
    }

    private static Node attempt(int depth) {
        left--;
        Node made = new Node(TRY, 0).with(block(depth - 1));
        int catches = upTo(4);
        for (int i = 0; i < catches && left > 1; i++) {
            Node part = block(depth - 1);
            part.mark = upTo(above.length);
            made.with(part);
        }
        if (made.parts.size() == 1 || upTo(2) == 0) {
            made.ending = true;
            made.with(block(depth - 1));
        }
        return made;
    }

    // ---- the same tree in the program

    private static final int MOST_CALLS = 512;
    // Making a tree takes fewer calls than these.
    private static final int CALLS_LEFT = 250;

    /** An object with the tree, THE ROOT looked at; when it has been asked enough, another one like it. */
    private static final class Held {
        private final Node tree;
        private ReachFlow x;
        private int calls;

        Held(Node tree) {
            this.tree = tree;
            begin();
        }

        private void begin() {
            x = new ReachFlow();
            calls = 0;
            makeKinds(this);
            make(this, tree);
            if (calls > CALLS_LEFT) {
                throw new IllegalStateException(calls + " calls for a tree");
            }
        }

        /** For a call that builds: the object stays the same. */
        ReachFlow same() {
            calls++;
            return x;
        }

        /** For a call that asks what was told of THE ROOT. */
        ReachFlow ask() {
            if (calls >= MOST_CALLS) {
                begin();
                same().check(root.number);
            }
            return same();
        }
    }

    private static void make(Held x, Node n) {
        for (Node part : n.parts) {
            make(x, part);
        }
        int first = n.parts.isEmpty() ? NONE : n.parts.get(0).number;
        int second = n.parts.size() < 2 ? NONE : n.parts.get(1).number;
        int want = x.same().of(0);
        if (n.sort <= LOCK) {
            int a = n.sort == EMPTY ? NONE : n.sort <= RETURN ? n.value : first;
            n.number = x.same().node(n.sort, n.sort <= RETURN ? 0 : n.value, a, n.sort == IF ? second : NONE);
        } else if (n.isJump()) {
            n.number = x.same().jump(n.sort - BREAK, n.value);
        } else if (n.sort == LABEL) {
            n.number = x.same().label(n.value, first);
        } else {
            makeRow(x, n);
        }
        due("a NODE of SORT " + n.sort, n.number, want);
    }

    private static void makeRow(Held x, Node n) {
        x.same().row(n.sort - BLOCK);
        int parts = n.ending ? n.parts.size() - 1 : n.parts.size();
        for (int i = 0; i < parts; i++) {
            Node part = n.parts.get(i);
            due("put", x.same().put(part.number, n.sort == BLOCK ? 0 : part.mark), i + 1);
        }
        n.number = x.same().end(n.sort == TRY ? n.ending ? n.ending().number : NONE : n.endMark);
    }

    private static void inOrder(Node n, List<Node> order) {
        order.add(n);
        for (Node part : n.parts) {
            inOrder(part, order);
        }
    }

    // ---- THE TARGET

    private static Node root;

    private static boolean liesIn(Node n, Node outer) {
        return n != root && (n.up == outer || liesIn(n.up, outer));
    }

    private static Node target(Node jump) {
        Node n = jump;
        while (n != root) {
            Node inner = n;
            n = n.up;
            if (jump.value == NONE) {
                if (n.isLoop() || jump.sort == BREAK && (n.sort == SWITCH || n.sort == RULES)) {
                    return n;
                }
            } else if (n.sort == LABEL && n.value == jump.value) {
                return jump.sort == BREAK ? n : inner.isLoop() ? inner : null;
            }
        }
        return null;
    }

    // ---- THE RULES, as one fixed point over all NODES of the ROOT

    private static boolean exits(Node jump) {
        Node goal = target(jump);
        if (goal == null || !jump.reached) {
            return false;
        }
        Node n = jump;
        while (n.up != goal) {
            Node inner = n;
            n = n.up;
            if (n.sort == TRY && n.ending && inner != n.ending() && !n.ending().completes) {
                return false;
            }
        }
        // the TARGET is never a TRY, so all TRIES within it have been passed
        return true;
    }

    private static boolean exitsTo(List<Node> order, Node goal, int sort) {
        for (Node n : order) {
            if (n.sort == sort && target(n) == goal && exits(n)) {
                return true;
            }
        }
        return false;
    }

    private static boolean isReached(Node n) {
        if (n == root) {
            return true;
        }
        Node up = n.up;
        if (!up.reached) {
            return false;
        }
        switch (up.sort) {
            case WHILE:
            case FOR:
                return up.test() != 0;
            case BLOCK:
                return n.before() == null || n.before().completes;
            case SWITCH:
                return n.mark != 0 || n.before().completes;
            case TRY:
                return !n.isCatch() || isCatchReached(n);
            default:
                return true;
        }
    }

    private static boolean caughtBefore(Node c) {
        for (Node other = c.before(); other.isCatch(); other = other.before()) {
            if (below(c.mark, other.mark)) {
                return true;
            }
        }
        return false;
    }

    private static boolean isCatchReached(Node c) {
        if (caughtBefore(c)) {
            return false;
        }
        if (unchecked(c.mark) || c.mark == 0 || c.mark == 1) {
            return true;
        }
        for (int k : c.up.parts.get(0).throwing) {
            if (below(k, c.mark) || below(c.mark, k)) {
                return true;
            }
        }
        return false;
    }

    private static boolean doesComplete(Node n, List<Node> order) {
        if (!n.reached) {
            return false;
        }
        boolean some = false;
        for (Node part : n.parts) {
            some |= part.completes && part != n.ending();
        }
        boolean left = exitsTo(order, n, BREAK);
        switch (n.sort) {
            case EMPTY:
            case ACT:
            case EACH:
                return true;
            case THROW:
            case RETURN:
            case BREAK:
            case CONTINUE:
                return false;
            case IF:
                return n.parts.size() == 1 || some;
            case WHILE:
            case FOR:
                return n.test() != 1 || left;
            case DO:
                return n.test() != 1 && (some || exitsTo(order, n, CONTINUE)) || left;
            case BLOCK:
                return n.parts.isEmpty() || n.last().completes;
            case SWITCH:
                return !n.hasDefault() || n.parts.isEmpty() || n.endMark != 0 || n.last().completes || left;
            case RULES:
                return !n.hasDefault() || some || left;
            case TRY:
                return some && (!n.ending || n.ending().completes);
            default:
                return some || left;
        }
    }

    private static Set<Integer> canThrow(Node n) {
        Set<Integer> all = new HashSet<>();
        if (!n.reached) {
            return all;
        }
        if ((n.sort == ACT || n.sort == THROW) && n.value != NONE) {
            all.add(n.value);
        }
        for (Node part : n.parts) {
            if (n.sort != TRY || part == n.ending()) {
                all.addAll(part.throwing);
            } else if (!n.ending || n.ending().completes) {
                for (int k : part.throwing) {
                    if (part.isCatch() || !isTaken(n, k)) {
                        all.add(k);
                    }
                }
            }
        }
        return all;
    }

    private static boolean isTaken(Node attempt, int k) {
        for (Node part : attempt.parts) {
            if (part.isCatch() && below(k, part.mark)) {
                return true;
            }
        }
        return false;
    }

    private static void findFixedPoint(List<Node> order) {
        for (Node n : order) {
            n.reached = false;
            n.completes = false;
            n.throwing.clear();
        }
        boolean changed = true;
        while (changed) {
            changed = false;
            for (Node n : order) {
                boolean reached = isReached(n);
                changed |= reached != n.reached;
                n.reached = reached;
                boolean completes = doesComplete(n, order);
                changed |= completes != n.completes;
                n.completes = completes;
                changed |= n.throwing.addAll(canThrow(n));
            }
        }
    }

    // ---- WALKS, one step after the other

    private static final class Stuck extends RuntimeException {
        private static final long serialVersionUID = 1L;

        Stuck() {
            super("stuck", null, false, false);
        }
    }

    /** Chooses as told by the list, then always the first way; the list is then moved on. */
    private static final class Choices {
        final List<Integer> taken = new ArrayList<>();
        final List<Integer> of = new ArrayList<>();
        int next;
        int most;
        Random dice;

        int choose(int ways) {
            if (ways == 1) {
                return 0;
            }
            if (dice != null) {
                if (next++ > most) {
                    throw new Stuck();
                }
                return dice.nextInt(ways);
            }
            if (next == taken.size()) {
                if (next >= most) {
                    throw new Stuck();
                }
                taken.add(0);
                of.add(ways);
            }
            return taken.get(next++);
        }

        String pick(List<String> ways) {
            return ways.get(choose(ways.size()));
        }

        boolean moveOn() {
            next = 0;
            while (!taken.isEmpty()) {
                int end = taken.size() - 1;
                if (taken.get(end) + 1 < of.get(end)) {
                    taken.set(end, taken.get(end) + 1);
                    return true;
                }
                taken.remove(end);
                of.remove(end);
            }
            return false;
        }
    }

    private static Choices choices;
    private static int steps;
    private static Set<Node> come;
    private static Set<String> seen;

    private static final String NORMALLY = "0 0";

    private static String walk(Node n) {
        if (++steps > 2000) {
            throw new Stuck();
        }
        come.add(n);
        String end = walkInto(n);
        seen.add(n.number + " " + end);
        return end;
    }

    private static String walkInto(Node n) {
        switch (n.sort) {
            case EMPTY:
                return NORMALLY;
            case ACT:
            case THROW:
                return choices.pick(waysToEnd(n));
            case RETURN:
                return "1 0";
            case BREAK:
            case CONTINUE:
                if (target(n) == null) {
                    throw new Stuck();
                }
                return (n.sort == BREAK ? "2 " : "3 ") + target(n).number;
            case IF:
                if (asked(n)) {
                    return walk(n.parts.get(0));
                }
                return n.parts.size() == 1 ? NORMALLY : walk(n.parts.get(1));
            case WHILE:
            case DO:
            case FOR:
            case EACH:
                return walkLoop(n);
            case BLOCK:
                return walkRow(n, 0);
            case SWITCH:
                return stopped(n, walkRow(n, entry(n)));
            case RULES:
                int ways = n.parts.size() + (n.hasDefault() ? 0 : 1);
                int way = choices.choose(ways);
                return way == n.parts.size() ? NORMALLY : stopped(n, walk(n.parts.get(way)));
            case TRY:
                return walkTry(n);
            default:
                return stopped(n, walk(n.parts.get(0)));
        }
    }

    private static List<String> waysToEnd(Node n) {
        List<String> all = new ArrayList<>();
        if (n.sort == ACT) {
            all.add(NORMALLY);
        }
        for (int k = 0; k < above.length && n.value != NONE; k++) {
            if (below(k, n.value)) {
                all.add("4 " + k);
            }
        }
        return all;
    }

    private static boolean asked(Node n) {
        return n.test() == 2 ? choices.choose(2) == 1 : n.test() == 1;
    }

    private static String stopped(Node n, String end) {
        return end.equals("2 " + n.number) ? NORMALLY : end;
    }

    private static String walkLoop(Node n) {
        boolean ask = n.sort != DO;
        while (true) {
            if (ask && !asked(n)) {
                return NORMALLY;
            }
            ask = true;
            String end = walk(n.parts.get(0));
            if (!end.equals(NORMALLY) && !end.equals("3 " + n.number)) {
                return stopped(n, end);
            }
        }
    }

    private static String walkRow(Node n, int from) {
        for (int i = from; i < n.parts.size(); i++) {
            String end = walk(n.parts.get(i));
            if (!end.equals(NORMALLY)) {
                return end;
            }
        }
        return NORMALLY;
    }

    private static int entry(Node n) {
        List<Integer> entries = new ArrayList<>();
        for (int i = 0; i < n.parts.size(); i++) {
            if (n.parts.get(i).mark != 0) {
                entries.add(i);
            }
        }
        if (n.endMark != 0 || !n.hasDefault()) {
            entries.add(n.parts.size());
        }
        return entries.get(choices.choose(entries.size()));
    }

    private static String walkTry(Node n) {
        String end = walk(n.parts.get(0));
        if (end.startsWith("4")) {
            int kind = Integer.parseInt(end.substring(2));
            for (Node part : n.parts) {
                if (part.isCatch() && below(kind, part.mark)) {
                    end = walk(part);
                    break;
                }
            }
        }
        if (n.ending) {
            String last = walk(n.ending());
            return last.equals(NORMALLY) ? end : last;
        }
        return end;
    }

    private static void walkOnce() {
        steps = 0;
        try {
            walk(root);
        } catch (Stuck stuck) {
            return;
        }
    }

    /** Whether all walks of no more choices than NODES were made, which is enough to see all. */
    private static boolean walkAll(int size) {
        startWalks(null, size);
        for (int walks = 0; walks < 30000; walks++) {
            walkOnce();
            if (!choices.moveOn()) {
                return true;
            }
        }
        return false;
    }

    private static void walkSome(long seed) {
        startWalks(new Random(seed), 200);
        for (int walks = 0; walks < 200; walks++) {
            choices.next = 0;
            walkOnce();
        }
    }

    private static void startWalks(Random dice, int most) {
        choices = new Choices();
        choices.dice = dice;
        choices.most = most;
        come = new HashSet<>();
        seen = new HashSet<>();
    }

    // ---- comparing

    private static void compareTold(Held x, Node n, String run) {
        due(run + "told 0", x.ask().told(n.number, 0), n.sort);
        due(run + "told 1", x.ask().told(n.number, 1), n.value);
        due(run + "told 2", x.ask().told(n.number, 2), n.parts.size());
        due(run + "told 3", x.ask().told(n.number, 3), n.up == null ? NONE : n.up.number);
        due(run + "told 4", x.ask().told(n.number, 4), n.mark);
        for (int i = 0; i < n.parts.size(); i++) {
            due(run + "part", x.ask().part(n.number, i), n.parts.get(i).number);
        }
    }

    private static void compareRules(Held x, List<Node> all, List<Node> order, String run) {
        for (Node n : all) {
            boolean in = order.contains(n);
            String at = run + "node " + n.number + " ";
            due(at + "reached", x.ask().reached(n.number), in && n.reached);
            due(at + "completes", x.ask().completes(n.number), in && n.completes);
            for (int k = 0; k < above.length; k++) {
                due(at + "can " + k, x.ask().can(n.number, k), in && n.throwing.contains(k) ? 1 : 0);
            }
            Node goal = in && n.isJump() ? target(n) : null;
            due(at + "target", x.ask().target(n.number), goal == null ? NONE : goal.number);
        }
    }

    private static List<int[]> faults(List<Node> order) {
        List<int[]> found = new ArrayList<>();
        for (Node n : order) {
            boolean lost = n != root && !n.reached && n.up.reached;
            boolean first = lost && (n.before() == null || n.before().reached);
            boolean caught = n != root && n.isCatch();
            addIf(found, lost && first && !caught, 1, n);
            addIf(found, n.isJump() && target(n) == null, 2, n);
            addIf(found, caught && caughtBefore(n), 3, n);
            addIf(found, caught && !caughtBefore(n) && lost, 4, n);
            boolean twice = false;
            for (Node outer : order) {
                twice |= n.sort == LABEL && outer.sort == LABEL && outer.value == n.value && liesIn(n, outer);
            }
            addIf(found, twice, 5, n);
        }
        return found;
    }

    private static void addIf(List<int[]> found, boolean is, int sort, Node n) {
        if (is) {
            found.add(new int[] {sort, n.number});
        }
    }

    private static void compareFaults(Held x, List<Node> order, String run) {
        List<int[]> found = faults(order);
        due(run + "check", x.ask().check(root.number), found.size());
        for (int i = 0; i < found.size(); i++) {
            due(run + "fault " + i, x.ask().fault(i, 0), found.get(i)[0]);
            due(run + "fault's node " + i, x.ask().fault(i, 1), found.get(i)[1]);
        }
        due(run + "no more faults", x.ask().fault(found.size(), 0), ReachFlow.BAD);
        boolean valued = false;
        boolean plain = false;
        for (Node n : order) {
            valued |= n.sort == RETURN && n.value == 1;
            plain |= n.sort == RETURN && n.value == 0;
        }
        boolean done = root.completes;
        int[] dues = {valued ? 6 : 0, plain ? 6 : done ? 7 : 0, valued || plain ? 6 : done ? 0 : 8,
            valued && plain || valued && done ? 9 : 0};
        for (int result = 0; result < 4; result++) {
            due(run + "member " + result, x.ask().member(root.number, result), found.isEmpty() ? dues[result] : found.get(0)[0]);
        }
    }

    private static void compareWalks(Held x, List<Node> order, boolean all, String run) {
        for (Node n : order) {
            String at = run + "node " + n.number + " ";
            if (all || come.contains(n)) {
                due(at + "walked", x.ask().walked(n.number), come.contains(n));
            }
            compareEnd(x, n, 0, 0, all, at);
            compareEnd(x, n, 1, 0, all, at);
            for (Node goal : order) {
                compareEnd(x, n, 2, goal.number, all, at);
                compareEnd(x, n, 3, goal.number, all, at);
            }
            for (int k = 0; k < above.length; k++) {
                compareEnd(x, n, 4, k, all, at);
            }
        }
    }

    private static void compareEnd(Held x, Node n, int how, int which, boolean all, String at) {
        boolean was = seen.contains(n.number + " " + how + " " + which);
        if (all || was) {
            due(at + "ends " + how + " " + which, x.ask().ends(n.number, how, which), was ? 1 : 0);
        }
    }

    private static void compareNotes(Held x, List<Node> order, String run) {
        int count = 0;
        for (Node n : order) {
            if (n != root && n.reached && !x.ask().walked(n.number) && x.ask().walked(n.up.number)) {
                due(run + "note " + count, x.ask().note(count), n.number);
                count++;
            }
        }
        due(run + "notes", x.ask().notes(), count);
    }

    private static void chooseKinds() {
        above = new int[4 + upTo(4)];
        above[0] = NONE;
        above[1] = 0;
        above[2] = 1;
        above[3] = 0;
        for (int k = 4; k < above.length; k++) {
            above[k] = upTo(3) > 0 ? 1 + upTo(k - 1) : upTo(k);
        }
    }

    private static void makeKinds(Held x) {
        for (int k = 4; k < above.length; k++) {
            due("exception", x.same().exception(above[k]), k);
        }
    }

    private static void compare(long seed, int most) {
        random = new Random(seed);
        chooseKinds();
        Node tree = treeOf(most);
        root = tree;
        Held x = new Held(tree);
        List<Node> all = new ArrayList<>();
        inOrder(tree, all);
        for (Node n : all) {
            compareTold(x, n, "seed " + seed + ": ");
        }
        compareAt(x, tree, all, seed);
        compareAt(x, all.get(upTo(all.size())), all, seed);
    }

    private static void compareAt(Held x, Node newRoot, List<Node> all, long seed) {
        root = newRoot;
        String run = "seed " + seed + ", root " + root.number + ": ";
        List<Node> order = new ArrayList<>();
        inOrder(root, order);
        findFixedPoint(order);
        compareFaults(x, order, run);
        compareRules(x, all, order, run);
        boolean seenAll = order.size() <= 16 && walkAll(order.size());
        if (!seenAll) {
            walkSome(seed);
        }
        whole += seenAll ? 1 : 0;
        compareWalks(x, order, seenAll, run);
        compareNotes(x, order, run);
    }

    public static void main(String[] args) {
        int trees = args.length > 0 ? Integer.parseInt(args[0]) : 4000;
        for (int i = 0; i < trees; i++) {
            compare(i, i % 4 == 0 ? 56 : 4 + i % 11);
        }
        System.out.println(trees + " trees; " + whole + " ROOTS with all their walks");
        System.out.println(wrong == 0 ? "all answers are as due" : wrong + " answers are not as due");
        if (wrong != 0) {
            System.exit(1);
        }
    }
}
