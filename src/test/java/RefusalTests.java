import java.util.ArrayList;
import java.util.List;
import java.util.Random;

/** Calls with wild numbers (from told seeds): none throws, and what is refused changes nothing. */
public final class RefusalTests {
    private static final int[] WILD = {Integer.MIN_VALUE, Integer.MAX_VALUE, -5, -4, -3, -2, -1, 61, 60, 59, 64, 1 << 30};
    private static final int CALLS = 512;
    private static int wrong = 0;
    private static final int[] answered = new int[4];

    private static int number(Random random, int most) {
        return random.nextInt(12) == 0 ? WILD[random.nextInt(WILD.length)] : random.nextInt(most + 2) - 1;
    }

    private static int recent(Random random, ReachFlow x) {
        int size = x.of(0);
        return random.nextInt(3) > 0 ? size - 1 - random.nextInt(6) : number(random, size);
    }

    private static int mark(Random random) {
        return random.nextInt(3) == 0 ? number(random, 5) : random.nextInt(4) - 1;
    }

    private static int build(ReachFlow x, Random random, int which) {
        switch (which) {
            case 0:
                return x.exception(number(random, x.of(1)));
            case 1:
                return x.node(random.nextInt(4), 0, random.nextInt(3) - 1, -1);
            case 2:
            case 3:
                return x.node(number(random, 9), number(random, 3), recent(random, x), random.nextInt(2) == 0 ? -1 : recent(random, x));
            case 4:
                return x.jump(number(random, 1), number(random, 5));
            case 5:
                return x.label(number(random, 5), recent(random, x));
            case 6:
            case 7:
                return x.row(number(random, 3));
            case 8:
            case 9:
            case 10:
                return x.put(recent(random, x), mark(random));
            case 11:
            case 12:
                return x.end(random.nextInt(3) == 0 ? recent(random, x) : mark(random));
            case 13:
                return random.nextInt(10) == 0 ? x.drop() : 0;
            case 14:
                return x.check(recent(random, x));
            default:
                return x.member(recent(random, x), number(random, 3));
        }
    }

    private static int ask(ReachFlow x, Random random) {
        int node = number(random, 60);
        x.reached(node);
        x.completes(node);
        x.walked(node);
        x.fault(number(random, 9), number(random, 1));
        x.note(number(random, 9));
        x.can(node, number(random, 12));
        x.target(node);
        x.told(node, number(random, 4));
        x.part(node, number(random, 6));
        x.of(number(random, 3));
        return x.ends(node, number(random, 4), number(random, 60));
    }

    private static List<Integer> answers(ReachFlow x) {
        List<Integer> all = new ArrayList<>();
        for (int what = 0; what < 4; what++) {
            all.add(x.of(what));
        }
        for (int i = 0; x.fault(i, 0) != ReachFlow.BAD; i++) {
            all.add(x.fault(i, 0));
            all.add(x.fault(i, 1));
        }
        for (int i = 0; i < x.notes(); i++) {
            all.add(x.note(i));
        }
        for (int n = 0; n < x.of(0); n++) {
            for (int what = 0; what < 5; what++) {
                all.add(x.told(n, what));
            }
            for (int i = 0; i < x.told(n, 2); i++) {
                all.add(x.part(n, i));
            }
            all.add((x.reached(n) ? 1 : 0) + (x.completes(n) ? 2 : 0) + (x.walked(n) ? 4 : 0));
            all.add(x.target(n));
            all.add(x.ends(n, 0, 0) + 2 * x.ends(n, 1, 0));
            for (int k = 0; k < x.of(1); k++) {
                all.add(x.can(n, k) + 2 * x.ends(n, 4, k));
            }
        }
        return all;
    }

    private static void run(long seed) {
        Random random = new Random(seed);
        ReachFlow x = new ReachFlow();
        List<Integer> before = answers(x);
        for (int call = 0; call < CALLS; call++) {
            int which = random.nextInt(16);
            int answer = build(x, random, which);
            ask(x, random);
            List<Integer> after = answers(x);
            if (answer < -1) {
                answered[-1 - answer]++;
                if (!after.equals(before)) {
                    wrong++;
                    System.out.println("seed " + seed + ", call " + call + " of sort " + which + " was refused by "
                        + answer + ", but changed something");
                }
            } else {
                answered[0]++;
            }
            before = after;
        }
    }

    public static void main(String[] args) {
        for (int seed = 0; seed < 150; seed++) {
            try {
                run(seed);
            } catch (RuntimeException | StackOverflowError thrown) {
                wrong++;
                System.out.println("seed " + seed + " threw " + thrown);
            }
        }
        System.out.println("answered " + answered[0] + "; BAD " + answered[1] + ", FULL " + answered[2] + ", NO " + answered[3]);
        System.out.println(wrong == 0 ? "all answers are as due" : wrong + " answers are not as due");
        if (wrong != 0) {
            System.exit(1);
        }
    }
}
