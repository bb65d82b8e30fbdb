import java.util.function.Consumer;
import java.util.function.ToLongFunction;

/** What the tests share: texts put on the tape, answers held against what is due, and a look through an object. */
abstract class Kit {
    static final int NONE = ShoeingDay.NONE;
    static final long ALL_HOURS = (1L << 41) - 1;
    static final int MIN = Integer.MIN_VALUE;
    static final int MAX = Integer.MAX_VALUE;
    static final String TWO = "smith a wage 2;smith b wage 3;horse x;horse y;"
            + "hours a x 2;hours a y 1;hours b x 1;hours b y 3;late 3;";
    /** What is being tested: the promise or the part of the terms, and its sentence. */
    static String promise = "";
    private static int wrong = 0;

    static void due(String call, long got, long want) {
        due(call, Long.toString(got), Long.toString(want));
    }

    static void due(String call, boolean got, boolean want) {
        due(call, Boolean.toString(got), Boolean.toString(want));
    }

    static void due(String call, String got, String want) {
        if (!got.equals(want)) {
            wrong++;
            System.out.println(promise + ": " + call + " answered " + got + ", due is " + want);
        }
    }

    /** Ends a test: with exit code 1 if an answer was not the one that is due. */
    static void finish(String whenGood) {
        System.out.println(wrong == 0 ? whenGood : wrong + " answers are not as due");
        if (wrong != 0) {
            System.exit(1);
        }
    }

    /** Four bytes of a text as a number, the highest first; blanks behind its end. */
    static int four(String text, int at) {
        int number = 0;
        for (int i = at; i < at + 4; i++) {
            number = number << 8 | (i < text.length() ? text.charAt(i) & 255 : 32);
        }
        return number;
    }

    static int feed(ShoeingDay x, String text, int at) {
        return x.feed(four(text, at), four(text, at + 4), four(text, at + 8), four(text, at + 12), four(text, at + 16));
    }

    static void put(ShoeingDay x, String text) {
        x.end(0);
        for (int at = 0; at < text.length(); at += 20) {
            feed(x, text, at);
        }
        due("end behind [" + text + "]", x.end(text.length()), text.length());
    }

    static ShoeingDay told(String text) {
        ShoeingDay x = new ShoeingDay();
        put(x, text);
        due("yard of [" + text + "] is none", x.yard() == NONE, false);
        return x;
    }

    static void good(String text, int smiths) {
        reads(text, smiths, 0, NONE);
    }

    static void faulty(String text, int kind, int place) {
        reads(text, NONE, kind, place);
    }

    /** The fault stands where the rest begins. */
    static void faultyBehind(String ahead, String rest, int kind) {
        faulty(ahead + rest, kind, ahead.length());
    }

    private static void reads(String text, int answer, int kind, int place) {
        ShoeingDay x = new ShoeingDay();
        put(x, text);
        due("yard of [" + text + "]", x.yard(), answer);
        due("fault(0) of [" + text + "]", x.fault(0), kind);
        due("fault(1) of [" + text + "]", x.fault(1), place);
    }

    static void roundIs(ShoeingDay x, int i, int lasts, int... horses) {
        due("lasts(" + i + ")", x.lasts(i), lasts);
        for (int smith = 0; smith < horses.length; smith++) {
            due("with(" + i + ", " + smith + ")", x.with(i, smith), horses[smith]);
        }
    }

    static void judgedAs(ShoeingDay x, int first, int lacked, int lasted) {
        due("judge(0)", x.judge(0), first);
        due("judge(1)", x.judge(1), lacked);
        due("judge(2)", x.judge(2), lasted);
    }

    /** Lines of smiths or horses, named a, b, .. */
    static String lines(String ahead, int count, String behind) {
        StringBuilder text = new StringBuilder();
        for (int i = 0; i < count; i++) {
            text.append(ahead).append((char) ('a' + i)).append(behind);
        }
        return text.toString();
    }

    static String smiths(int count) {
        return lines("smith ", count, " wage 1;");
    }

    static String masters(int count) {
        return lines("smith ", count, " master wage 1;");
    }

    static String horses(int count) {
        return lines("horse ", count, ";");
    }

    /** A call that is refused: it answers NONE and does nothing, as a twin shows that was never asked. */
    static void refused(String call, Consumer<ShoeingDay> story, ToLongFunction<ShoeingDay> asked) {
        ShoeingDay x = new ShoeingDay();
        story.accept(x);
        due(call, asked.applyAsLong(x), NONE);
        ShoeingDay twin = new ShoeingDay();
        story.accept(twin);
        due("all behind " + call, lookThrough(x), lookThrough(twin));
    }

    /** The same, for a yard in which there is something of all that a call could spoil. */
    static void refused(String call, ToLongFunction<ShoeingDay> asked) {
        refused(call, Kit::busyStory, asked);
    }

    /** Acts done and undone, told rounds, sights, two boxes, a time, and half a text on the tape. */
    static void busyStory(ShoeingDay x) {
        put(x, TWO);
        x.yard();
        x.image(0);
        x.run(1);
        x.more(0, 1, 4);
        x.image(2);
        x.breaks(1, 0);
        x.undo();
        x.round(1);
        x.pair(0, 0);
        x.round(2);
        x.pair(1, 1);
        x.later(7);
        x.sight(1, 0, 0);
        x.sight(0, 1, 1);
        x.later(2);
        x.untell(1);
        put(x, "horse x;horse y;hor");
    }

    /** All that an object can be made to tell; it is worn out by it. */
    static String lookThrough(ShoeingDay x) {
        StringBuilder seen = new StringBuilder();
        lookAtNow(x, seen);
        lookAtTold(x, seen);
        seen.append(" undone");
        for (int i = 0; i < 41 && x.undo(); i++) {
            lookAtLacked(x, seen);
        }
        seen.append(" redone");
        for (int i = 0; i < 41 && x.redo(); i++) {
            lookAtLacked(x, seen);
        }
        for (int box = 0; box < 3; box++) {
            seen.append(" back ").append(x.back(box));
            lookAtLacked(x, seen);
        }
        seen.append(" yard ").append(x.yard()).append(' ').append(x.fault(0)).append(' ').append(x.fault(1));
        seen.append(' ').append(x.about(0)).append(' ').append(x.about(1)).append(' ').append(x.about(3));
        return seen.toString();
    }

    private static void lookAtNow(ShoeingDay x, StringBuilder seen) {
        for (int what = 0; what <= 10; what++) {
            seen.append(what == 0 ? "about " : " ").append(x.about(what));
        }
        seen.append(" fault ").append(x.fault(0)).append(' ').append(x.fault(1));
        lookAtLacked(x, seen);
        seen.append(" least ").append(x.least()).append(" rounds ").append(x.rounds());
        seen.append(" lasts ").append(x.lasts(0)).append(" with ").append(x.with(0, 0));
        seen.append(" wages ").append(x.wages()).append(" parted ").append(x.parted(2, 0, 0, 0));
        seen.append(" even ").append(x.even()).append(" proof ").append(x.proof());
    }

    private static void lookAtTold(ShoeingDay x, StringBuilder seen) {
        for (int what = 0; what < 3; what++) {
            seen.append(" judge ").append(x.judge(what));
        }
        seen.append(" pair ").append(x.pair(0, 0)).append(" hush ").append(x.hush());
        int time = x.about(8);
        for (int k = time - 3; k <= time; k++) {
            seen.append(" fits ").append(x.fits(0, 0, k));
        }
        for (int sight = 0; sight < 20; sight++) {
            seen.append(x.untell(sight) ? " told" : " -");
        }
        seen.append(" sight ").append(x.sight(0, 0, NONE));
    }

    private static void lookAtLacked(ShoeingDay x, StringBuilder seen) {
        seen.append(" [").append(x.about(2)).append(": ").append(x.about(3));
        for (int smith = 0; smith < 2; smith++) {
            seen.append(", ").append(x.lacks(smith, 0)).append(' ').append(x.lacks(smith, 1));
        }
        seen.append(']');
    }
}
