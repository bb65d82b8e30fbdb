import java.util.Random;

/** Calls with any arguments in any order: none may throw, and each answers within its range. */
public final class WildCallsTest {
    private static final int[] EDGES = {Integer.MIN_VALUE, Integer.MIN_VALUE + 1, -1000, -100, -99, -2, -1, 0, 1, 2, 3,
        7, 8, 9, 10, 11, 12, 19, 20, 39, 40, 41, 80, 98, 99, 100, 999, 1000, 1001, 1700, 100000,
        Integer.MAX_VALUE - 1, Integer.MAX_VALUE};
    private static final String FULL = fullYard();
    private static int wrong = 0;
    private final Random random;
    private final ShoeingDay x = new ShoeingDay();

    private WildCallsTest(long seed) {
        random = new Random(seed);
    }

    public static void main(String[] args) {
        for (int seed = 1; seed <= 400 && wrong < 5; seed++) {
            WildCallsTest test = new WildCallsTest(seed);
            try {
                test.oneRun();
            } catch (RuntimeException | StackOverflowError thrown) {
                wrong++;
                System.out.println("seed " + seed + " threw " + thrown);
                thrown.printStackTrace(System.out);
            }
        }
        System.out.println(wrong == 0 ? "no call threw" : wrong + " runs went wrong");
        if (wrong != 0) {
            System.exit(1);
        }
    }

    private static String fullYard() {
        StringBuilder text = new StringBuilder();
        for (char name = 'a'; name <= 'h'; name++) {
            text.append("smith ").append(name).append(" master wage 9;");
        }
        for (char name = 'a'; name <= 'j'; name++) {
            text.append("horse ").append(name).append(';');
        }
        for (int i = 0; i < 60; i++) {
            text.append("hours ").append((char) ('a' + i % 8)).append(' ').append((char) ('a' + i / 8)).append(' ');
            text.append(i * 37 % 100).append(';');
        }
        return text.toString();
    }

    private int any() {
        return random.nextInt(3) == 0 ? random.nextInt(12) : EDGES[random.nextInt(EDGES.length)];
    }

    private void oneRun() {
        if (random.nextInt(4) > 0) {
            tell(FULL);
        }
        for (int i = 0; i < 400; i++) {
            int answer = oneCall();
            if (answer < ShoeingDay.NONE) {
                wrong++;
                System.out.println("an answer below NONE: " + answer);
                return;
            }
        }
    }

    private void tell(String text) {
        for (int at = 0; at < text.length(); at += 20) {
            Kit.feed(x, text, at);
        }
        x.end(text.length());
        if (x.yard() != 8) {
            wrong++;
            System.out.println("the full yard was refused: " + x.fault(0) + " at " + x.fault(1));
        }
    }

    private int oneCall() {
        int a = any();
        int b = any();
        int c = any();
        switch (random.nextInt(34)) {
            case 0: return x.feed(a, b, c, random.nextInt(), random.nextInt());
            case 1: return x.end(a);
            case 2: return random.nextInt(8) == 0 ? x.yard() : 0;
            case 3: return x.fault(a);
            case 4: return x.lacks(a, b);
            case 5: return x.sum(a, random.nextBoolean());
            case 6: return x.least();
            case 7: return x.busy(random.nextBoolean());
            case 8: return x.rounds();
            case 9: return x.lasts(a);
            case 10: return x.with(a, b);
            case 11: return x.wages();
            case 12: return x.parted(a, b, c, any());
            case 13: return x.parted(1 + random.nextInt(9), 0, random.nextInt(8), random.nextInt(10));
            case 14: return x.even();
            case 15: return x.proof();
            case 16: return random.nextInt(3) == 0 ? x.run(a) : 0;
            case 17: case 18: case 19: return x.more(random.nextInt(9), random.nextInt(11), c);
            case 20: return random.nextInt(3) == 0 ? x.breaks(a, b) : 0;
            case 21: return x.undo() ? 1 : 0;
            case 22: return x.redo() ? 1 : 0;
            case 23: return x.round(a);
            case 24: return x.pair(a, b);
            case 25: return x.hush();
            case 26: return x.judge(a);
            case 27: return x.sight(a, random.nextInt(8), random.nextInt(11) - 1);
            case 28: return x.untell(a) ? 1 : 0;
            case 29: return x.later(a);
            case 30: return x.fits(random.nextInt(8), random.nextInt(10), c) < ShoeingDay.NONE ? -9 : 0;
            case 31: return x.image(a);
            case 32: return x.back(a);
            default: return x.about(a);
        }
    }
}
