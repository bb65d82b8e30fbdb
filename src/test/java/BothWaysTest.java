import java.util.Random;

/** Random runs of calls, put to ShoeingDay and to PlainYard: every answer to the first 512 must be the same. */
public final class BothWaysTest {
    private static final int MOST_CALLS = 512;
    private static int wrong = 0;
    private static long asked = 0;
    private final Random random;
    private final ShoeingDay x = new ShoeingDay();
    private final PlainYard plain = new PlainYard();
    private final StringBuilder story = new StringBuilder();
    private int smiths = 0;
    private int horses = 0;
    private int calls = 0;

    private BothWaysTest(long seed) {
        random = new Random(seed);
    }

    public static void main(String[] args) {
        int runs = args.length > 0 ? Integer.parseInt(args[0]) : 640;
        int first = args.length > 1 ? Integer.parseInt(args[1]) : 1;
        for (int seed = first; seed < first + runs && wrong < 5; seed++) {
            new BothWaysTest(seed).oneRun(seed);
        }
        System.out.println(wrong == 0 ? "both ways agree on " + asked + " answers" : wrong + " runs disagree");
        if (wrong != 0) {
            System.exit(1);
        }
    }

    private void oneRun(int seed) {
        for (int yards = 0; yards < 3 && calls < MOST_CALLS; yards++) {
            String text = aText();
            if (random.nextInt(3) == 0) {
                text = spoilt(text);
            }
            if (!tell(text)) {
                report(seed);
                return;
            }
            int count = 50 + random.nextInt(80);
            for (int i = 0; i < count && calls < MOST_CALLS; i++) {
                if (!oneCall()) {
                    report(seed);
                    return;
                }
            }
        }
    }

    private void report(int seed) {
        wrong++;
        System.out.println("seed " + seed + ":\n" + story);
    }

    private boolean same(String call, long got, long due) {
        calls++;
        if (calls > MOST_CALLS) {
            return true;
        }
        asked++;
        story.append(call).append(" = ").append(got).append('\n');
        if (got != due) {
            story.append("   but plainly it is ").append(due).append('\n');
        }
        return got == due;
    }

    private boolean tell(String text) {
        boolean good = same("end", x.end(0), plain.end(0));
        for (int at = 0; at < text.length() && good; at += 20) {
            int a = Kit.four(text, at);
            int b = Kit.four(text, at + 4);
            int c = Kit.four(text, at + 8);
            int d = Kit.four(text, at + 12);
            int e = Kit.four(text, at + 16);
            good = same("feed", x.feed(a, b, c, d, e), plain.feed(a, b, c, d, e));
        }
        story.append('[').append(text).append("]\n");
        good = good && same("end", x.end(text.length()), plain.end(text.length()));
        good = good && same("yard", x.yard(), plain.yard());
        good = good && same("fault(0)", x.fault(0), plain.fault(0)) && same("fault(1)", x.fault(1), plain.fault(1));
        smiths = plain.about(0);
        horses = plain.about(1);
        return good;
    }

    private String aText() {
        StringBuilder text = new StringBuilder();
        int ns = random.nextInt(9);
        int nh = random.nextInt(11);
        int most = new int[] {2, 5, 12, 99}[random.nextInt(4)];
        int fill = 1 + random.nextInt(4);
        int masters = 0;
        for (int s = 0; s < ns; s++) {
            boolean master = random.nextInt(3) > 0;
            masters |= master ? 1 << s : 0;
            text.append("smith ").append((char) ('a' + s)).append(master ? " master" : "");
            text.append(" wage ").append(random.nextInt(100)).append(';');
        }
        for (int h = 0; h < nh; h++) {
            text.append(random.nextBoolean() ? "horse " : "horse\n").append((char) ('a' + h)).append(" ;");
        }
        if (random.nextBoolean()) {
            text.append("late ").append(random.nextInt(60)).append(';');
        }
        int[][] evenly = random.nextInt(3) == 0 ? evenHours(ns, nh) : null;
        int lines = 0;
        for (int s = 0; s < ns; s++) {
            for (int h = 0; h < nh; h++) {
                int quarters = evenly != null ? evenly[s][h] : random.nextInt(most + 1);
                boolean told = evenly != null ? quarters > 0 : random.nextInt(4) < fill;
                if (told && lines < 60 && text.length() < 1550) {
                    lines++;
                    text.append("hours ").append((char) ('a' + s)).append(' ').append((char) ('a' + h));
                    text.append(' ').append(quarters).append(';');
                }
            }
        }
        for (int i = 0; i < 6; i++) {
            int one = random.nextInt(8);
            int two = random.nextInt(8);
            String line = "lends " + (char) ('a' + one) + " " + (char) ('a' + two) + ";";
            boolean can = (masters >> one & masters >> two & 1) != 0 && one != two;
            if (can && text.indexOf(line) < 0 && text.length() < 1680) {
                text.append(line);
            }
        }
        return text.toString();
    }

    /** Some rounds laid one upon another, so that many are busy at once and few rounds will do. */
    private int[][] evenHours(int ns, int nh) {
        int[][] hours = new int[ns][nh];
        int layers = 1 + random.nextInt(7);
        for (int i = 0; i < layers; i++) {
            int lasts = 1 + random.nextInt(random.nextBoolean() ? 2 : 12);
            int used = 0;
            for (int s = 0; s < ns; s++) {
                int h = random.nextInt(Math.max(nh, 1));
                for (int tries = 0; tries < nh && (used >> h & 1) != 0; tries++) {
                    h = (h + 1) % nh;
                }
                if (h < nh && (used >> h & 1) == 0) {
                    used |= 1 << h;
                    hours[s][h] += lasts;
                }
            }
        }
        return hours;
    }

    private String spoilt(String text) {
        StringBuilder other = new StringBuilder(text);
        String[] bits = {";", " ", "smith", "master", "wage", "horse", "hours", "lends", "late", "a", "b", "z", "7",
            "123", "12345", "\t", "A", "abcdefgh", "abcdefghi", "\u00e9", "\n", "late 5;", "smith zz wage 3;",
            "horse zz;", "hours a a 3;", "lends a a;", "lends a b;", "3x"};
        int times = 1 + random.nextInt(2);
        for (int i = 0; i < times; i++) {
            int at = random.nextInt(other.length() + 1);
            int kind = random.nextInt(4);
            if (kind == 0 && at < other.length()) {
                other.deleteCharAt(at);
            } else if (kind == 1) {
                other.setLength(at);
            } else if (other.length() < 1660) {
                other.insert(at, bits[random.nextInt(bits.length)]);
            }
        }
        return other.toString();
    }

    private int aSmith() {
        return random.nextInt(12) == 0 ? random.nextInt(12) - 2 : random.nextInt(Math.max(smiths, 1));
    }

    private int aHorse() {
        return random.nextInt(12) == 0 ? random.nextInt(14) - 2 : random.nextInt(Math.max(horses, 1));
    }

    private boolean oneCall() {
        int s = aSmith();
        int h = aHorse();
        int i = random.nextInt(30) - 1;
        switch (random.nextInt(33)) {
            case 0: return same("lacks", x.lacks(s, h), plain.lacks(s, h));
            case 1: return same("sum smith", x.sum(s, false), plain.sum(s, false));
            case 2: return same("sum horse", x.sum(h, true), plain.sum(h, true));
            case 3: return same("least", x.least(), plain.least());
            case 4: return same("busy", x.busy(false), plain.busy(false));
            case 5: return same("busy horses", x.busy(true), plain.busy(true));
            case 6: return wholeDay();
            case 7: return same("lasts " + i, x.lasts(i), plain.lasts(i));
            case 8: return same("with " + i + "," + s, x.with(i, s), plain.with(i, s));
            case 9: return same("wages", x.wages(), plain.wages());
            case 10: return wholeParting(random.nextInt(11));
            case 11: return same("even", x.even(), plain.even());
            case 12: return same("proof", x.proof(), plain.proof());
            case 13: case 14: {
                int q = random.nextInt(8) == 0 ? random.nextInt(1100) - 20 : random.nextInt(25);
                return same("run " + q, x.run(q), plain.run(q));
            }
            case 15: case 16: {
                int by = random.nextInt(5) == 0 ? random.nextInt(220) - 110 : random.nextInt(30) - 15;
                return same("more " + s + "," + h + "," + by, x.more(s, h, by), plain.more(s, h, by));
            }
            case 17: {
                int other = aSmith();
                return same("breaks " + s + "," + other, x.breaks(s, other), plain.breaks(s, other));
            }
            case 18: case 19: return same("undo", x.undo() ? 1 : 0, plain.undo() ? 1 : 0);
            case 20: return same("redo", x.redo() ? 1 : 0, plain.redo() ? 1 : 0);
            case 21: {
                int lasts = random.nextInt(6) == 0 ? random.nextInt(110) - 5 : 1 + random.nextInt(3);
                return same("round " + lasts, x.round(lasts), plain.round(lasts));
            }
            case 22: case 23: return same("pair " + s + "," + h, x.pair(s, h), plain.pair(s, h));
            case 24: return random.nextInt(4) > 0 || same("hush", x.hush(), plain.hush());
            case 25: {
                int what = random.nextInt(5) - 1;
                return same("judge " + what, x.judge(what), plain.judge(what));
            }
            case 26: return aSight();
            case 27: return same("untell", x.untell(i) ? 1 : 0, plain.untell(i) ? 1 : 0);
            case 28: {
                int by = random.nextInt(9) == 0 ? random.nextInt(1200) - 100 : random.nextInt(3);
                return same("later " + by, x.later(by), plain.later(by));
            }
            case 29: {
                int k = plain.about(8) - random.nextInt(4) + 1;
                return same("fits " + s + "," + h + "," + k, x.fits(s, h, k), plain.fits(s, h, k));
            }
            case 30: return same("image", x.image(i % 5), plain.image(i % 5));
            case 31: return random.nextInt(3) > 0 || same("back", x.back(i % 5), plain.back(i % 5));
            default: return allAbout();
        }
    }

    /** Half of the sights are such that hold, so that they leave some hours over. */
    private boolean aSight() {
        int s = aSmith();
        int h = random.nextInt(3) == 0 ? -1 : aHorse();
        int q = random.nextInt(8) == 0 ? random.nextInt(1100) - 50 : random.nextInt(20);
        if (random.nextInt(3) > 0 && plain.about(4) == 0 && plain.about(2) == 0) {
            int at = 0;
            for (int i = 0; i < plain.rounds() && at <= q; i++) {
                at += plain.lasts(i);
                h = plain.with(i, s);
            }
            h = at > q ? h : -1;
        }
        return same("sight " + q + "," + s + "," + h, x.sight(q, s, h), plain.sight(q, s, h));
    }

    private boolean wholeDay() {
        boolean good = same("rounds", x.rounds(), plain.rounds());
        for (int i = 0; i < plain.rounds() && good; i++) {
            good = same("lasts " + i, x.lasts(i), plain.lasts(i));
            for (int s = 0; s < smiths && good; s++) {
                good = same("with " + i + "," + s, x.with(i, s), plain.with(i, s));
            }
        }
        return good;
    }

    private boolean wholeParting(int n) {
        boolean good = true;
        int day = random.nextInt(Math.max(n, 1));
        for (; day < n && good; day += 1 + random.nextInt(n)) {
            for (int s = 0; s < smiths && good; s++) {
                for (int h = random.nextInt(2); h < horses && good; h += 1 + random.nextInt(3)) {
                    good = same("parted " + n + "," + day + "," + s + "," + h,
                            x.parted(n, day, s, h), plain.parted(n, day, s, h));
                }
            }
        }
        return good && same("parted behind", x.parted(n, n, 0, 0), plain.parted(n, n, 0, 0));
    }

    private boolean allAbout() {
        boolean good = true;
        for (int what = -1; what < 12 && good; what++) {
            good = same("about " + what, x.about(what), plain.about(what));
        }
        return good;
    }
}
