import java.util.ArrayList;
import java.util.List;
import java.util.Random;

/**
 * Calls with wild numbers (from told seeds): none throws, and without those that were refused all others are answered as
 * before. No object is used for more than 512 calls.
 */
public final class RefusalTests {
    private static final int[] WILD = {Integer.MIN_VALUE, Integer.MAX_VALUE, -5, -4, -3, -2, -1, 61, 60, 59, 64, 32, 1 << 30};
    // Beyond as many calls no more are made that build: the last ones ask what has come of it.
    private static final int BUILDING = 360, MOST_CALLS = 508;
    private static final int THREE_QUESTIONS = 20;
    private static int wrong = 0;
    private static final int[] answered = new int[4];

    /** Which call it is, and its arguments, of which it takes as many as it needs. */
    private static final class Call {
        final int which;
        final int a, b, c, d;

        Call(int which, int a, int b, int c, int d) {
            this.which = which;
            this.a = a;
            this.b = b;
            this.c = c;
            this.d = d;
        }

        int on(ReachFlow x) {
            switch (which) {
                case 0:
                    return x.exception(a);
                case 1:
                    return x.node(a, b, c, d);
                case 2:
                    return x.jump(a, b);
                case 3:
                    return x.label(a, b);
                case 4:
                    return x.row(a);
                case 5:
                    return x.put(a, b);
                case 6:
                    return x.end(a);
                case 7:
                    return x.drop();
                case 8:
                    return x.check(a);
                case 9:
                    return x.member(a, b);
                case 10:
                    return x.clear();
                default:
                    return asked(x);
            }
        }

        private int asked(ReachFlow x) {
            switch (which) {
                case 11:
                    return x.told(a, b);
                case 12:
                    return x.part(a, b);
                case 13:
                    return x.of(a);
                case 14:
                    return x.fault(a, b);
                case 15:
                    return x.note(a);
                case 16:
                    return x.can(a, b);
                case 17:
                    return x.target(a);
                case 18:
                    return x.ends(a, b, c);
                case 19:
                    return x.notes();
                default:
                    return (x.reached(a) ? 1 : 0) + (x.completes(a) ? 2 : 0) + (x.walked(a) ? 4 : 0);
            }
        }

        @Override
        public String toString() {
            return "call " + which + " with " + a + ", " + b + ", " + c + ", " + d;
        }
    }

    private static Random random;
    private static int nodes;

    private static int number(int most) {
        return random.nextInt(12) == 0 ? WILD[random.nextInt(WILD.length)] : random.nextInt(most + 2) - 1;
    }

    private static int recent() {
        return random.nextInt(3) > 0 ? nodes - 1 - random.nextInt(6) : number(nodes);
    }

    private static int mark() {
        return random.nextInt(3) == 0 ? number(5) : random.nextInt(4) - 1;
    }

    private static Call building() {
        switch (random.nextInt(15)) {
            case 0:
                return new Call(0, number(8), 0, 0, 0);
            case 1:
            case 2:
                return new Call(1, random.nextInt(4), 0, random.nextInt(3) - 1, -1);
            case 3:
                return new Call(1, number(9), number(3), recent(), random.nextInt(2) == 0 ? -1 : recent());
            case 4:
                return new Call(2, number(1), number(5), 0, 0);
            case 5:
                return new Call(3, number(5), recent(), 0, 0);
            case 6:
            case 7:
                return new Call(4, number(3), 0, 0, 0);
            case 8:
            case 9:
            case 10:
                return new Call(5, recent(), mark(), 0, 0);
            case 11:
            case 12:
                return new Call(6, random.nextInt(3) == 0 ? recent() : mark(), 0, 0, 0);
            case 13:
                return new Call(random.nextInt(10) > 0 ? 8 : random.nextInt(8) > 0 ? 7 : 10, recent(), 0, 0, 0);
            default:
                return new Call(9, recent(), number(3), 0, 0);
        }
    }

    private static Call asking() {
        int which = 11 + random.nextInt(10);
        int a = which == 13 ? number(3) : which == 14 || which == 15 ? number(4) : recent();
        int b = which == 11 ? number(4) : which == 14 ? number(1) : which == 16 ? number(5) : number(4);
        int c = b < 2 ? random.nextInt(8) == 0 ? 1 : 0 : b == 4 ? number(5) : recent();
        return new Call(which, a, b, c, 0);
    }

    private static void run(long seed) {
        random = new Random(seed);
        nodes = 0;
        ReachFlow x = new ReachFlow();
        List<Call> accepted = new ArrayList<>();
        List<Integer> answers = new ArrayList<>();
        for (int made = 0; made < MOST_CALLS; ) {
            Call call = made < BUILDING && random.nextInt(5) > 0 ? building() : asking();
            made += call.which == THREE_QUESTIONS ? 3 : 1;
            int answer = call.on(x);
            answered[answer < -1 ? -1 - answer : 0]++;
            if (answer >= -1) {
                accepted.add(call);
                answers.add(answer);
                nodes = call.which == 10 ? 0 : isMaker(call) ? answer + 1 : nodes;
            }
        }
        compareWithout(seed, accepted, answers);
    }

    private static boolean isMaker(Call call) {
        return call.which == 1 || call.which == 2 || call.which == 3 || call.which == 6;
    }

    private static void compareWithout(long seed, List<Call> accepted, List<Integer> answers) {
        ReachFlow x = new ReachFlow();
        for (int i = 0; i < accepted.size(); i++) {
            int answer = accepted.get(i).on(x);
            if (answer != answers.get(i)) {
                wrong++;
                System.out.println("seed " + seed + ": " + accepted.get(i) + " answered " + answers.get(i)
                    + ", but without the refused calls " + answer);
                return;
            }
        }
    }

    public static void main(String[] args) {
        for (int seed = 0; seed < 3000; seed++) {
            try {
                run(seed);
            } catch (RuntimeException | StackOverflowError thrown) {
                wrong++;
                System.out.println("seed " + seed + " threw " + thrown);
            }
        }
        System.out.println("answered " + answered[0] + "; BAD " + answered[1] + ", FULL " + answered[2] + ", NO " + answered[3]);
        System.out.println(wrong == 0 ? "all answers are as due" : wrong + " answers are not as due");
        if (wrong != 0) {
            System.exit(1);
        }
    }
}
