import java.util.Arrays;
import java.util.List;
import java.util.function.Consumer;

/** What each call changes, and what it leaves as it was (all promises): each side of an object is looked at by itself. */
public final class StaysTest extends Kit {
    private static final String TAPE = "the TAPE";
    private static final String FAULT = "the FAULT";
    private static final String YARD = "the YARD";
    private static final String LACKED = "what is lacked, and the QUARTER";
    private static final String ACTS = "the ACTS";
    private static final String ROUNDS = "the TOLD ROUNDS";
    private static final String SIGHTS = "the SIGHTS";
    private static final String TIME = "the TIME";
    private static final String BOXES = "the BOXES";
    private static final List<String> SIDES =
            Arrays.asList(TAPE, FAULT, YARD, LACKED, ACTS, ROUNDS, SIGHTS, TIME, BOXES);

    public static void main(String[] args) {
        texts();
        questionsOfWhatIsLacked();
        questionsOfTheDay();
        questionsOfPartedAndEven();
        acts();
        takenBack();
        toldRounds();
        sights();
        times();
        images();
        questionsAbout();
        answersAskedTwice();
        finish("each call changes what it should, and leaves all else");
    }

    /** A yard with something on every side, and a fault told by the latest yard(). */
    private static void story(ShoeingDay x) {
        busyStory(x);
        x.yard();
    }

    /** One side of an object; it is worn out by it. */
    private static String sideOf(ShoeingDay x, String side) {
        switch (side) {
            case TAPE: return tapeOf(x);
            case FAULT: return x.fault(0) + " at " + x.fault(1);
            case YARD: return x.about(0) + " " + x.about(1) + " late " + x.about(10) + paidBehindBack(x);
            case LACKED: return x.about(2) + ": " + x.about(3) + lackedOf(x) + " least " + x.least();
            case ACTS: return actsOf(x);
            case ROUNDS: return roundsOf(x);
            case SIGHTS: return sightsOf(x);
            case TIME: return x.about(8) + " then " + x.later(1);
            default: return boxesOf(x);
        }
    }

    private static String lackedOf(ShoeingDay x) {
        StringBuilder seen = new StringBuilder();
        for (int cell = 0; cell < 4; cell++) {
            seen.append(' ').append(x.lacks(cell / 2, cell % 2));
        }
        return seen.toString();
    }

    /** Bytes are seen by what a yard() of them and some more finds. */
    private static String tapeOf(ShoeingDay x) {
        String seen = x.about(9) + " and " + feed(x, "se z;late 5;", 0);
        return seen + " " + x.yard() + " " + x.fault(0) + " at " + x.fault(1) + " " + x.about(1) + " " + x.about(10);
    }

    private static String paidBehindBack(ShoeingDay x) {
        x.back(0);
        return " wages " + x.wages() + " even " + x.even();
    }

    private static String actsOf(ShoeingDay x) {
        StringBuilder seen = new StringBuilder().append(x.about(4)).append(" done, undone ").append(x.about(5));
        for (int i = 0; i < 41 && x.redo(); i++) {
            seen.append(" again").append(lackedOf(x));
        }
        for (int i = 0; i < 41 && x.undo(); i++) {
            seen.append(" back").append(lackedOf(x));
        }
        return seen.toString();
    }

    private static String roundsOf(ShoeingDay x) {
        x.back(0);
        String seen = x.about(6) + ": " + x.judge(0) + " " + x.judge(1) + " " + x.judge(2);
        return seen + " pair " + x.pair(0, 1) + " hush " + x.hush();
    }

    private static String sightsOf(ShoeingDay x) {
        StringBuilder seen = new StringBuilder().append(x.about(7)).append(':');
        for (int k = 0; k <= 20; k++) {
            seen.append(' ').append(Long.toHexString(x.fits(0, 0, k) ^ x.fits(1, 1, k) << 20));
        }
        for (int sight = 0; sight < 5; sight++) {
            seen.append(x.untell(sight) ? " told" : " -");
        }
        return seen.toString();
    }

    private static String boxesOf(ShoeingDay x) {
        StringBuilder seen = new StringBuilder();
        for (int box = 0; box < 3; box++) {
            seen.append(" box ").append(x.back(box)).append(lackedOf(x));
        }
        return seen.toString();
    }

    /** Behind a call the told sides are others than a twin's that was not asked; all other sides are the same. */
    private static void changes(String call, Consumer<ShoeingDay> before, Consumer<ShoeingDay> asked, String... changed) {
        for (String side : SIDES) {
            ShoeingDay x = new ShoeingDay();
            ShoeingDay twin = new ShoeingDay();
            before.accept(x);
            before.accept(twin);
            asked.accept(x);
            String got = sideOf(x, side);
            String was = sideOf(twin, side);
            boolean due = Arrays.asList(changed).contains(side);
            due(call + " changes " + side + " (" + was + ", then " + got + ")", !got.equals(was), due);
        }
    }

    private static void changes(String call, Consumer<ShoeingDay> asked, String... changed) {
        changes(call, StaysTest::story, asked, changed);
    }

    private static void stays(String call, Consumer<ShoeingDay> asked) {
        changes(call, asked);
    }

    private static void texts() {
        promise = "Promise 2, what comes";
        changes("feed", x -> feed(x, "se q;horse u;", 0), TAPE);
        promise = "Promise 3, what goes";
        changes("end(8)", x -> x.end(8), TAPE);
        changes("end(0)", x -> x.end(0), TAPE);
        stays("end(19), all that there is", x -> x.end(19));
        promise = "Promise 4, what begins anew, what stays";
        changes("yard", x -> {
            story(x);
            put(x, "smith c wage 1;smith d wage 1;horse x;horse y;hours d y 9;");
        }, ShoeingDay::yard, TAPE, FAULT, YARD, LACKED, ACTS, ROUNDS, SIGHTS, BOXES);
        changes("yard with a fault", x -> {
            story(x);
            put(x, "horse x;horse y;?");
        }, ShoeingDay::yard, FAULT);
        promise = "Promise 5, a question";
        stays("fault(0)", x -> x.fault(0));
        stays("fault(1)", x -> x.fault(1));
    }

    private static void questionsOfWhatIsLacked() {
        promise = "Promise 6, a question";
        stays("lacks(1, 1)", x -> x.lacks(1, 1));
        promise = "Promise 7, a question";
        stays("sum(0, false)", x -> x.sum(0, false));
        stays("sum(1, true)", x -> x.sum(1, true));
        promise = "Promise 8, a question";
        stays("least", ShoeingDay::least);
        promise = "Promise 9, a question";
        stays("busy(false)", x -> x.busy(false));
        stays("busy(true)", x -> x.busy(true));
    }

    private static void questionsOfTheDay() {
        promise = "Promise 10, a question";
        stays("rounds", ShoeingDay::rounds);
        promise = "Promise 11, a question";
        stays("lasts(1)", x -> x.lasts(1));
        promise = "Promise 12, a question";
        stays("with(1, 0)", x -> x.with(1, 0));
        promise = "Promise 13, a question";
        stays("wages", ShoeingDay::wages);
    }

    private static void questionsOfPartedAndEven() {
        promise = "Promise 14, a question";
        stays("parted(3, 1, 0, 0)", x -> x.parted(3, 1, 0, 0));
        promise = "Promise 15, a question";
        stays("even", ShoeingDay::even);
        promise = "Promise 16, a question";
        stays("proof", ShoeingDay::proof);
    }

    private static void acts() {
        promise = "Promise 17, an ACT";
        changes("run(2)", x -> x.run(2), LACKED, ACTS);
        changes("run(1) of nothing", x -> {
            story(x);
            x.run(999);
        }, x -> x.run(1), ACTS);
        promise = "Promise 18, an ACT";
        changes("more(1, 0, 3)", x -> x.more(1, 0, 3), LACKED, ACTS);
        changes("more(1, 0, 0)", x -> x.more(1, 0, 0), ACTS);
        promise = "Promise 19, an ACT";
        changes("breaks(0, 1)", x -> x.breaks(0, 1), LACKED, ACTS);
    }

    private static void takenBack() {
        promise = "Promise 20, what is taken back";
        changes("undo", ShoeingDay::undo, LACKED, ACTS);
        promise = "Promise 21, what is done again";
        changes("redo", ShoeingDay::redo, LACKED, ACTS);
    }

    private static void toldRounds() {
        promise = "Promise 22, what begins";
        changes("round(3)", x -> x.round(3), ROUNDS);
        promise = "Promise 23, what comes";
        changes("pair(0, 0)", x -> x.pair(0, 0), ROUNDS);
        promise = "Promise 24, what goes";
        changes("hush", ShoeingDay::hush, ROUNDS);
        promise = "Promise 25, a question";
        for (int what = 0; what < 3; what++) {
            int asked = what;
            stays("judge(" + what + ")", x -> x.judge(asked));
        }
    }

    private static void sights() {
        promise = "Promise 26, what is told";
        changes("sight(2, 0, 1)", x -> x.sight(2, 0, 1), SIGHTS);
        promise = "Promise 27, what is untold";
        changes("untell(0)", x -> x.untell(0), SIGHTS);
    }

    private static void times() {
        promise = "Promise 28, what goes on";
        changes("later(5)", x -> x.later(5), TIME);
        stays("later(0)", x -> x.later(0));
        promise = "Promise 29, a question";
        stays("fits(0, 0, 8)", x -> x.fits(0, 0, 8));
        stays("fits(1, 1, 0)", x -> x.fits(1, 1, 0));
    }

    private static void images() {
        promise = "Promise 30, what is kept";
        changes("image(1)", x -> x.image(1), BOXES);
        stays("image(2), once more", x -> x.image(2));
        promise = "Promise 31, what is as it was kept";
        changes("back(0)", x -> x.back(0), LACKED, ACTS);
        changes("back(2), where it is", x -> x.back(2), ACTS);
    }

    private static void questionsAbout() {
        promise = "Promise 32, a question";
        for (int what = -1; what <= 11; what++) {
            int asked = what;
            stays("about(" + what + ")", x -> x.about(asked));
        }
    }

    /** No question's answer hangs on which was asked before it. */
    private static void answersAskedTwice() {
        promise = "Promises 6 to 16, 25, 29 and 32, asked once more";
        ShoeingDay x = new ShoeingDay();
        story(x);
        String first = allAnswers(x, false);
        due("asked backwards", allAnswers(x, true), first);
        due("asked once more", allAnswers(x, false), first);
    }

    private static String allAnswers(ShoeingDay x, boolean backwards) {
        String[] answers = new String[18];
        for (int i = 0; i < answers.length; i++) {
            int which = backwards ? answers.length - 1 - i : i;
            answers[which] = Long.toString(answerOf(x, which));
        }
        return Arrays.toString(answers);
    }

    private static long answerOf(ShoeingDay x, int which) {
        switch (which) {
            case 0: return x.lacks(1, 0);
            case 1: return x.sum(0, true);
            case 2: return x.least();
            case 3: return x.busy(true);
            case 4: return x.rounds();
            case 5: return x.lasts(0);
            case 6: return x.with(0, 0);
            case 7: return x.wages();
            case 8: return x.parted(2, 1, 0, 1);
            case 9: return x.fits(0, 0, 9);
            case 10: return x.parted(3, 1, 0, 1);
            case 11: return x.fits(0, 1, 7);
            case 12: return x.fits(0, 0, 7);
            case 13: return x.even();
            case 14: return x.proof();
            case 15: return x.judge(1);
            case 16: return x.with(1, 1);
            default: return x.about(3);
        }
    }
}
