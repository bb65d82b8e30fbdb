/** The boundary cases of lost entries, sights and times, of images and of about (terms, ==== 4, promises 26 to 32). */
public final class SightBoundsTest extends Kit {
    private static final int[] FAR = {MIN, MIN + 1, -100, -3, -2, 11, 100, MAX - 1, MAX};
    private static final String FULL = smiths(8) + horses(10);
    private static final String ONE = smiths(1) + horses(1);

    public static void main(String[] args) {
        sightInAQuarterOnEitherSide();
        sightOfWhatCannotBe();
        sightWithNone();
        twentySights();
        untellOnEitherSide();
        untellOnce();
        laterOnEitherSide();
        laterUpTo100000();
        timeStays();
        fitsOfWhatCannotBe();
        fitsFrom0To40();
        fitsOfALostEntryAbove40();
        fitsWithAllOthersAsTold();
        fitsBehindTheDaysEnd();
        fitsInQuarter999();
        fitsAsToldAtK();
        fitsAsUntoldAtK();
        fitsAtAnyK();
        imageOnEitherSide();
        imageKeepsWhatIsLackedAndTheQuarter();
        backOfNothing();
        backKeepsNoActs();
        backLeavesTheRest();
        aboutOnEitherSide();
        aboutOfEmptyAndFull();
        aboutLate();
        finish("the boundaries of sights, times and images hold");
    }

    private static long from(int hours) {
        return ALL_HOURS & -1L << hours;
    }

    private static long upTo(int hours) {
        return (1L << hours + 1) - 1;
    }

    private static void sightInAQuarterOnEitherSide() {
        promise = "Promise 26, in a QUARTER (0 .. 999)";
        ShoeingDay x = told(TWO);
        due("sight(0, ..)", x.sight(0, 0, 0), 0);
        due("sight(999, ..)", x.sight(999, 0, 0), 1);
        for (int quarter : new int[] {MIN, -1000, -1, 1000, 1001, MAX}) {
            refused("sight(" + quarter + ", 0, 0)", one -> one.sight(quarter, 0, 0));
            refused("sight(" + quarter + ", 0, NONE)", one -> one.sight(quarter, 0, NONE));
        }
    }

    private static void sightOfWhatCannotBe() {
        promise = "Promise 26, NONE, doing nothing, if one can't be";
        for (int far : FAR) {
            refused("sight(0, " + far + ", 0)", one -> one.sight(0, far, 0));
            refused("sight(0, 0, " + far + ")", one -> one.sight(0, 0, far));
        }
        refused("sight(0, -1, 0)", one -> one.sight(0, -1, 0));
        refused("sight(0, 2, 0)", one -> one.sight(0, 2, 0));
        refused("sight(0, 2, NONE)", one -> one.sight(0, 2, NONE));
        refused("sight(0, 0, 2)", one -> one.sight(0, 0, 2));
        ShoeingDay x = told(FULL);
        due("no smith", x.sight(0, 8, 9), NONE);
        due("no horse", x.sight(0, 7, 10), NONE);
        due("the last of both", x.sight(0, 7, 9), 0);
    }

    private static void sightWithNone() {
        promise = "Promise 26, with a HORSE (NONE: with none)";
        ShoeingDay x = told(ONE + "hours a a 5;");
        due("with none", x.sight(4, 0, NONE), 0);
        due("fits", x.fits(0, 0, 0), upTo(4));
        due("in a yard without horses", told(smiths(1)).sight(0, 0, NONE), 0);
        due("with a horse there", told(smiths(1)).sight(0, 0, 0), NONE);
        due("in a yard without smiths", told(horses(1)).sight(0, 0, NONE), NONE);
    }

    private static void sights(ShoeingDay x, int count) {
        put(x, TWO);
        x.yard();
        for (int i = 0; i < count; i++) {
            x.sight(0, 0, 0);
        }
    }

    private static void twentySights() {
        promise = "Promise 26, its number; NONE, doing nothing, if there are 20";
        ShoeingDay x = told(ONE);
        for (int i = 0; i < 20; i++) {
            due("sight " + i, x.sight(i, 0, i < 19 ? 0 : NONE), i);
            due("sights", x.about(7), i + 1);
        }
        due("fits, by all twenty", x.fits(0, 0, 0), 1L << 19);
        refused("a twenty-first", one -> sights(one, 20), one -> one.sight(0, 0, 1));
        refused("one in the place of one that is untold", one -> {
            sights(one, 20);
            one.untell(3);
        }, one -> one.sight(0, 0, 1));
        ShoeingDay nineteen = new ShoeingDay();
        sights(nineteen, 19);
        due("a twentieth", nineteen.sight(0, 0, 1), 19);
        put(nineteen, TWO);
        due("yard", nineteen.yard(), 2);
        due("the first again", nineteen.sight(0, 0, 1), 0);
    }

    private static void untellOnEitherSide() {
        promise = "Promise 27, false if there is none such";
        for (int sight : new int[] {MIN, -2, -1, 2, 3, 19, 20, MAX}) {
            refused("untell(" + sight + ")", one -> one.untell(sight) ? 1 : NONE);
        }
        for (int sight : new int[] {-1, 20, 21}) {
            refused("untell(" + sight + ") of twenty", one -> sights(one, 20), one -> one.untell(sight) ? 1 : NONE);
        }
        refused("untell(0) of none", one -> sights(one, 0), one -> one.untell(0) ? 1 : NONE);
        ShoeingDay x = new ShoeingDay();
        sights(x, 20);
        due("untell(0)", x.untell(0), true);
        due("untell(19)", x.untell(19), true);
    }

    private static void untellOnce() {
        promise = "Promise 27, false if it is so already";
        refused("untell(1)", one -> one.untell(1) ? 1 : NONE);
        refused("untell(1), later", one -> {
            busyStory(one);
            one.later(1);
        }, one -> one.untell(1) ? 1 : NONE);
        ShoeingDay x = told(ONE);
        x.sight(0, 0, NONE);
        due("at the same time", x.untell(0), true);
        due("fits at once", x.fits(0, 0, 0), ALL_HOURS);
        due("again", x.untell(0), false);
        x.later(1);
        due("again, later", x.untell(0), false);
        due("told anew", x.sight(0, 0, NONE), 1);
        due("untell the new one", x.untell(1), true);
    }

    private static void laterOnEitherSide() {
        promise = "Promise 28, so much later (0 .. 1000); NONE, doing nothing, for another number";
        ShoeingDay x = new ShoeingDay();
        due("later(0)", x.later(0), 0);
        due("later(1)", x.later(1), 1);
        due("later(1000)", x.later(1000), 1001);
        due("later(999)", x.later(999), 2000);
        for (int by : new int[] {MIN, -1000, -9, -1, 1001, 1002, 100000, MAX - 8, MAX}) {
            refused("later(" + by + ")", one -> one.later(by));
        }
    }

    private static void goTo(ShoeingDay x, int time) {
        put(x, TWO);
        x.yard();
        for (int i = 0; i < 101 && x.about(8) < time; i++) {
            x.later(Math.min(1000, time - x.about(8)));
        }
    }

    private static void laterUpTo100000() {
        promise = "Promise 28, NONE, doing nothing, if it would be above 100,000";
        ShoeingDay x = new ShoeingDay();
        goTo(x, 99000);
        due("later(1000)", x.later(1000), 100000);
        due("later(1)", x.later(1), NONE);
        due("later(0)", x.later(0), 100000);
        refused("later(1) at 100,000", one -> goTo(one, 100000), one -> one.later(1));
        refused("later(1000) at 99,001", one -> goTo(one, 99001), one -> one.later(1000));
        refused("later(2) at 99,999", one -> goTo(one, 99999), one -> one.later(2));
        ShoeingDay other = new ShoeingDay();
        goTo(other, 99999);
        due("sight(0, 0, 1)", other.sight(0, 0, 1), 0);
        due("later(1)", other.later(1), 100000);
        due("untell at 100,000", other.untell(0), true);
        due("fits at 99,998", other.fits(0, 0, 99998), ALL_HOURS);
        due("fits at 99,999", other.fits(0, 0, 99999), 1);
        due("fits at 100,000", other.fits(0, 0, 100000), ALL_HOURS);
    }

    private static void timeStays() {
        promise = "Terms 4, a TIME (0 at first, goes on); promise 4, the TIME stays";
        ShoeingDay x = new ShoeingDay();
        due("at first", x.about(8), 0);
        x.later(7);
        put(x, ONE);
        due("yard", x.yard(), 1);
        due("behind yard", x.about(8), 7);
        x.image(0);
        x.later(1);
        x.back(0);
        due("behind back", x.about(8), 8);
        x.run(1);
        x.later(1);
        x.undo();
        due("behind undo", x.about(8), 9);
        x.sight(0, 0, NONE);
        due("told at 9", x.fits(0, 0, 8), ALL_HOURS);
        due("known at 9", x.fits(0, 0, 9), 1);
    }

    private static void fitsOfWhatCannotBe() {
        promise = "Promise 29, NONE if one can't be";
        ShoeingDay x = told(FULL);
        due("the first of both", x.fits(0, 0, 0), ALL_HOURS);
        due("the last of both", x.fits(7, 9, 0), ALL_HOURS);
        due("no smith", x.fits(8, 9, 0), NONE);
        due("no horse", x.fits(7, 10, 0), NONE);
        for (int far : FAR) {
            due("fits(" + far + ", 0, 0)", x.fits(far, 0, 0), NONE);
            due("fits(0, " + far + ", 0)", x.fits(0, far, 0), NONE);
        }
        due("fits(-1, 0, 0)", x.fits(-1, 0, 0), NONE);
        due("fits(0, -1, 0)", x.fits(0, -1, 0), NONE);
        due("without horses", told(smiths(8)).fits(0, 0, 0), NONE);
        due("without smiths", told(horses(10)).fits(0, 0, 0), NONE);
    }

    private static void fitsFrom0To40() {
        promise = "Terms 4, hours 0 .. 40";
        ShoeingDay x = told(ONE);
        due("no sight", x.fits(0, 0, 0), 2199023255551L);
        x.sight(0, 0, NONE);
        due("0 alone", x.fits(0, 0, 0), 1);
        x.untell(0);
        x.sight(39, 0, 0);
        due("40 alone", x.fits(0, 0, 0), 1L << 40);
        x.untell(1);
        x.sight(40, 0, 0);
        due("41 can't be", x.fits(0, 0, 0), 0);
        x.untell(2);
        x.sight(40, 0, NONE);
        due("none above 40", x.fits(0, 0, 0), ALL_HOURS);
        x.sight(39, 0, NONE);
        due("all but 40", x.fits(0, 0, 0), upTo(39));
    }

    private static void fitsOfALostEntryAbove40() {
        promise = "Terms 4, a pair of which the hours are not known (0 .. 40), whatever was told";
        ShoeingDay x = told(ONE + "hours a a 99;");
        due("no sight", x.fits(0, 0, 0), ALL_HOURS);
        x.sight(38, 0, 0);
        due("39 or 40", x.fits(0, 0, 0), from(39));
        x.sight(40, 0, 0);
        due("as told, but above 40", x.fits(0, 0, 0), 0);
    }

    private static void fitsWithAllOthersAsTold() {
        promise = "Terms 4, all others as told at first, in the DAY from the beginning";
        String yard = smiths(2) + horses(1) + "hours a a 99;hours b a 3;";
        ShoeingDay x = told(yard);
        x.sight(98, 0, 0);
        x.sight(99, 1, 0);
        due("b's hours: 1 or more", x.fits(1, 0, 0), from(1));
        x.run(50);
        x.more(0, 0, -9);
        x.breaks(1, 0);
        due("b's hours, in earnest", x.fits(1, 0, 0), from(1));
        x.sight(102, 1, 0);
        due("4 or more", x.fits(1, 0, 0), from(4));
        due("a's hours with b's 3", x.fits(0, 0, 0), 0);
        put(x, yard);
        x.yard();
        x.sight(10, 1, 0);
        due("a's hours: 8, 9 or 10", x.fits(0, 0, 0), 256 + 512 + 1024);
        put(x, smiths(2) + horses(1) + "hours b a 1;");
        x.yard();
        x.sight(10, 1, 0);
        due("a's hours in another yard: 10", x.fits(0, 0, 0), 1024);
    }

    private static void fitsBehindTheDaysEnd() {
        promise = "Terms 4, behind its end all stand with none";
        String yard = smiths(2) + horses(2) + "hours a a 5;";
        // the day lasts as long as the longer of a's 5 and what is lost of b's
        for (int quarter = 3; quarter <= 7; quarter++) {
            ShoeingDay x = told(yard);
            x.sight(quarter, 0, 0);
            due("a stands in " + quarter, x.fits(1, 1, 0), quarter < 5 ? ALL_HOURS : 0);
            ShoeingDay y = told(yard);
            y.sight(quarter, 0, NONE);
            due("a stands with none in " + quarter, y.fits(1, 1, 0), quarter < 5 ? 0 : ALL_HOURS);
            ShoeingDay z = told(yard);
            z.sight(quarter, 1, 1);
            due("b stands in " + quarter, z.fits(1, 1, 0), from(quarter + 1));
            z.untell(0);
            z.sight(quarter, 1, NONE);
            due("b stands with none in " + quarter, z.fits(1, 1, 0), upTo(quarter));
        }
    }

    private static void fitsInQuarter999() {
        promise = "Terms 4, a QUARTER (0 .. 999), behind the longest day";
        ShoeingDay x = told(TWO);
        x.sight(999, 1, NONE);
        due("with none in 999", x.fits(0, 0, 0), ALL_HOURS);
        x.sight(999, 1, 1);
        due("with a horse in 999", x.fits(0, 0, 0), 0);
        StringBuilder text = new StringBuilder(FULL);
        for (char horse = 'a'; horse < 'j'; horse++) {
            text.append("hours h ").append(horse).append(" 99;");
        }
        // nine horses of 99 in their order, and behind them as much of the tenth as was lost
        ShoeingDay full = told(text.toString());
        full.sight(890, 7, 8);
        full.sight(891 + 39, 7, 9);
        due("40", full.fits(7, 9, 0), 1L << 40);
        full.sight(891 + 40, 7, NONE);
        due("no more than 40", full.fits(7, 9, 0), 1L << 40);
    }

    private static ShoeingDay toldAt5UntoldAt8() {
        ShoeingDay x = told(ONE);
        x.later(5);
        x.sight(10, 0, 0);
        x.later(3);
        x.untell(0);
        return x;
    }

    private static void fitsAsToldAtK() {
        promise = "Terms 4, as known at k those count that were TOLD at k or before";
        ShoeingDay x = toldAt5UntoldAt8();
        due("at 0", x.fits(0, 0, 0), ALL_HOURS);
        due("at 4", x.fits(0, 0, 4), ALL_HOURS);
        due("at 5", x.fits(0, 0, 5), from(11));
        due("at 6", x.fits(0, 0, 6), from(11));
        ShoeingDay first = told(ONE);
        first.sight(10, 0, 0);
        due("told at 0, known at 0", first.fits(0, 0, 0), from(11));
        due("told at 0, known at -1", first.fits(0, 0, -1), ALL_HOURS);
    }

    private static void fitsAsUntoldAtK() {
        promise = "Terms 4, not UNTOLD at k or before (at a later TIME or the same)";
        ShoeingDay x = toldAt5UntoldAt8();
        due("at 7", x.fits(0, 0, 7), from(11));
        due("at 8", x.fits(0, 0, 8), ALL_HOURS);
        due("at 9", x.fits(0, 0, 9), ALL_HOURS);
        x.sight(20, 0, NONE);
        due("another, at 8", x.fits(0, 0, 8), upTo(20));
        due("another, at 7", x.fits(0, 0, 7), from(11));
        x.untell(1);
        due("told and untold at 8, at 7", x.fits(0, 0, 7), from(11));
        due("told and untold at 8, at 8", x.fits(0, 0, 8), ALL_HOURS);
        due("told and untold at 8, at 9", x.fits(0, 0, 9), ALL_HOURS);
        ShoeingDay first = told(ONE);
        first.sight(10, 0, 0);
        first.untell(0);
        due("told and untold at 0", first.fits(0, 0, 0), ALL_HOURS);
    }

    private static void fitsAtAnyK() {
        promise = "Promise 29, k before all and behind all";
        ShoeingDay x = told(ONE);
        x.sight(10, 0, 0);
        x.later(5);
        x.sight(20, 0, NONE);
        due("at the least k", x.fits(0, 0, MIN), ALL_HOURS);
        due("at -1", x.fits(0, 0, -1), ALL_HOURS);
        due("at 0", x.fits(0, 0, 0), from(11));
        due("at 5", x.fits(0, 0, 5), from(11) & upTo(20));
        due("at 6", x.fits(0, 0, 6), from(11) & upTo(20));
        due("at the greatest k", x.fits(0, 0, MAX), from(11) & upTo(20));
    }

    private static void imageOnEitherSide() {
        promise = "Promise 30, a BOX 0 .. 2: the QUARTER; NONE if there is none such";
        ShoeingDay x = told(TWO);
        for (int box = 0; box < 3; box++) {
            due("image(" + box + ")", x.image(box), box);
            x.run(1);
        }
        for (int box = 0; box < 3; box++) {
            due("back(" + box + ")", x.back(box), box);
        }
        for (int box : new int[] {MIN, -3, -1, 3, 4, MAX}) {
            refused("image(" + box + ")", one -> one.image(box));
        }
        due("image(0) in a new object", new ShoeingDay().image(0), 0);
    }

    private static void imageKeepsWhatIsLackedAndTheQuarter() {
        promise = "Promise 30, what is lacked, the QUARTER are kept";
        ShoeingDay x = told(FULL + "hours a a 9;hours h j 5;");
        x.run(2);
        due("image(2)", x.image(2), 2);
        x.run(999);
        x.more(3, 3, 99);
        due("back(2)", x.back(2), 2);
        due("lacks(0, 0)", x.lacks(0, 0), 7);
        due("lacks(7, 9)", x.lacks(7, 9), 3);
        due("lacks(3, 3)", x.lacks(3, 3), 0);
        x.more(0, 0, 1);
        due("a box is kept over by the next image", x.image(2), 2);
        x.run(1);
        due("back(2)", x.back(2), 2);
        due("lacks(0, 0)", x.lacks(0, 0), 8);
        due("back(2) once more", x.back(2), 2);
        due("an image is no act", x.about(4), 0);
    }

    private static void backOfNothing() {
        promise = "Promise 31, NONE, doing nothing, if nothing was";
        for (int box : new int[] {MIN, -3, -1, 1, 3, 4, MAX}) {
            refused("back(" + box + ")", one -> one.back(box));
        }
        for (int box = 0; box < 3; box++) {
            int empty = box;
            refused("back(" + box + ") in a new object", one -> one.run(1), one -> one.back(empty));
            refused("back(" + box + ") behind yard", one -> {
                busyStory(one);
                put(one, TWO);
                one.yard();
                one.run(1);
            }, one -> one.back(empty));
        }
    }

    private static void backKeepsNoActs() {
        promise = "Promise 31, all is as it was kept (no ACTS are kept then)";
        ShoeingDay x = new ShoeingDay();
        busyStory(x);
        due("acts", x.about(4), 2);
        due("undone", x.about(5), 1);
        due("back(0)", x.back(0), 0);
        due("acts then", x.about(4), 0);
        due("undone then", x.about(5), 0);
        due("undo", x.undo(), false);
        due("redo", x.redo(), false);
        due("lacked", x.about(3), 7);
        due("run", x.run(1), 1);
        due("undo", x.undo(), true);
        due("undo, back to where back led", x.about(3), 7);
        due("undo", x.undo(), false);
        due("back(2)", x.back(2), 1);
        due("lacked", x.about(3), 9);
        due("redo", x.redo(), false);
        ShoeingDay now = told(TWO);
        now.run(1);
        now.image(1);
        due("back to what is now", now.back(1), 1);
        due("acts", now.about(4), 0);
        ShoeingDay many = told(ONE);
        many.more(0, 0, 50);
        many.image(0);
        for (int i = 0; i < 45; i++) {
            many.more(0, 0, 1);
        }
        due("back behind 46 acts", many.back(0), 0);
        due("more", many.more(0, 0, 9), 59);
        due("undo", many.undo(), true);
        due("lacks", many.lacks(0, 0), 50);
        due("undo", many.undo(), false);
        due("redo", many.redo(), true);
        due("lacks", many.lacks(0, 0), 59);
    }

    private static void backLeavesTheRest() {
        promise = "Promises 30 and 31, what is not kept stays as it is";
        ShoeingDay x = new ShoeingDay();
        busyStory(x);
        x.back(0);
        due("rounds told", x.about(6), 2);
        due("sights", x.about(7), 2);
        due("time", x.about(8), 9);
        due("bytes", x.about(9), 19);
        due("late", x.about(10), 3);
        due("back(2), a box that was kept", x.back(2), 1);
        due("back(0), and the same again", x.back(0), 0);
        put(x, "?");
        due("yard with a fault", x.yard(), NONE);
        due("back(2), behind a fault", x.back(2), 1);
    }

    private static void aboutOnEitherSide() {
        promise = "Promise 32, NONE for another what";
        ShoeingDay x = new ShoeingDay();
        busyStory(x);
        int[] due = {2, 2, 1, 9, 2, 1, 2, 2, 9, 19, 3};
        for (int what = 0; what <= 10; what++) {
            due("about(" + what + ")", x.about(what), due[what]);
        }
        for (int what : new int[] {MIN, -2, -1, 11, 12, MAX}) {
            due("about(" + what + ")", x.about(what), NONE);
        }
    }

    private static void aboutOfEmptyAndFull() {
        promise = "Promise 32, of what is empty and of what is full";
        ShoeingDay x = told(FULL);
        int[] empty = {8, 10, 0, 0, 0, 0, 0, 0, 0, 0, NONE};
        for (int what = 0; what <= 10; what++) {
            due("about(" + what + ") of empty", x.about(what), empty[what]);
        }
        for (int cell = 0; cell < 80; cell++) {
            x.more(cell / 10, cell % 10, 99);
        }
        for (int i = 0; i < 21; i++) {
            x.round(1);
            x.sight(0, 0, 0);
        }
        for (int i = 0; i < 86; i++) {
            x.feed(0, 0, 0, 0, 0);
        }
        int[] full = {8, 10, 0, 7920, 40, 0, 12, 20, 0, 1700, NONE};
        for (int what = 0; what <= 10; what++) {
            due("about(" + what + ") of full", x.about(what), full[what]);
        }
        for (int i = 0; i < 41; i++) {
            x.undo();
        }
        due("undone", x.about(5), 40);
        due("acts", x.about(4), 0);
        due("lacked", x.about(3), 3960);
        due("untell", x.untell(0), true);
        due("sights, the untold ones, too", x.about(7), 20);
    }

    private static void aboutLate() {
        promise = "Promise 32, late (NONE)";
        due("not told", told(ONE).about(10), NONE);
        due("late 0", told("late 0;").about(10), 0);
        due("late 9999", told("late 9999;").about(10), 9999);
    }
}
