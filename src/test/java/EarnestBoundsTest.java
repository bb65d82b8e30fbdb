/** The boundary cases of a day in earnest and of told rounds (terms, ==== 3, promises 17 to 25). */
public final class EarnestBoundsTest extends Kit {
    private static final int[] FAR = {MIN, MIN + 1, -100, -2, -1, 11, 100, MAX - 1, MAX};
    private static final String FULL = smiths(8) + horses(10);
    private static final String ONE = smiths(1) + horses(1);

    public static void main(String[] args) {
        runOnEitherSide();
        runTillNothingIsLacked();
        runIsAnActEvenIfNoneWent();
        runGoesByTheDayAsItIs();
        moreByOnEitherSide();
        moreUpTo99DownTo0();
        moreOfWhatCannotBe();
        breaksOfWhatCannotBe();
        breaksUpTo99();
        breaksOfNothing();
        undoOfNothing();
        redoOfNothing();
        undoTakesBackTheLatest();
        redoTillAnotherAct();
        redoStaysBehindWhatIsNoAct();
        fortyAreKept();
        theOldestGo();
        roundOnEitherSide();
        twelveRounds();
        tenPairs();
        pairOfWhatCannotBe();
        pairComesToTheLatest();
        hushOfNoneAndOfTwelve();
        judgeOnEitherSide();
        judgeOfNoRounds();
        judgeSomebodyStandsTwice();
        judgeAPairThatLacksLess();
        judgeTheTwelfth();
        judgeByWhatIsLackedNow();
        finish("the boundaries of the day in earnest hold");
    }

    private static void runOnEitherSide() {
        promise = "Promise 17, QUARTERS (1 .. 999); NONE, doing nothing, for another number";
        ShoeingDay x = told(TWO);
        due("run(1)", x.run(1), 1);
        due("run(999)", x.run(999), 3);
        for (int quarters : new int[] {MIN, -999, -1, 0, 1000, 1001, MAX}) {
            refused("run(" + quarters + ")", one -> one.run(quarters));
        }
        for (int quarters : new int[] {0, 1000}) {
            refused("run(" + quarters + ") in a new object", one -> { }, one -> one.run(quarters));
        }
    }

    private static void runTillNothingIsLacked() {
        promise = "Promise 17, so many go on, or till nothing is lacked: how many";
        for (int quarters = 1; quarters <= 6; quarters++) {
            ShoeingDay x = told(TWO);
            int gone = Math.min(quarters, 4);
            due("run(" + quarters + ") of 4", x.run(quarters), gone);
            due("quarter", x.about(2), gone);
            due("least", x.least(), 4 - gone);
        }
        // the longest day there can be is shorter than the longest run
        ShoeingDay x = told(FULL);
        for (int horse = 0; horse < 10; horse++) {
            x.more(7, horse, 99);
        }
        due("run(989) of 990", x.run(989), 989);
        due("lacked", x.about(3), 1);
        due("run(999)", x.run(999), 1);
        x.undo();
        x.undo();
        due("run(990) of 990", x.run(990), 990);
        x.undo();
        due("run(999) of 990", x.run(999), 990);
        due("quarter", x.about(2), 990);
    }

    private static void runIsAnActEvenIfNoneWent() {
        promise = "Promise 17, an ACT, even if none went";
        ShoeingDay x = new ShoeingDay();
        due("run(1) in a new object", x.run(1), 0);
        due("acts", x.about(4), 1);
        due("quarter", x.about(2), 0);
        due("undo", x.undo(), true);
        due("undone", x.about(5), 1);
        due("run(999)", x.run(999), 0);
        due("undone behind it", x.about(5), 0);
        due("acts behind it", x.about(4), 1);
    }

    /** Ten times one quarter, or ten at once: the day is the same, as it begins anew at each from what is lacked then. */
    private static void runGoesByTheDayAsItIs() {
        promise = "Terms 3, QUARTER by QUARTER by the DAY as it is at each";
        String yard = smiths(3) + horses(2) + "hours a a 5;hours b b 5;hours c a 3;hours c b 3;";
        for (int quarters = 1; quarters <= 8; quarters++) {
            ShoeingDay atOnce = told(yard);
            atOnce.run(quarters);
            ShoeingDay oneByOne = told(yard);
            for (int i = 0; i < quarters; i++) {
                due("run(1)", oneByOne.run(1), 1);
            }
            for (int cell = 0; cell < 6; cell++) {
                due("lacks behind " + quarters, oneByOne.lacks(cell / 2, cell % 2), atOnce.lacks(cell / 2, cell % 2));
            }
        }
        ShoeingDay x = told(yard);
        x.run(2);
        due("c, behind the first round", x.lacks(2, 1), 3);
        x.run(1);
        due("c, in the second", x.lacks(2, 1), 2);
        due("a, in the second", x.lacks(0, 0), 2);
        due("b, in the second", x.lacks(1, 1), 3);
    }

    private static void moreByOnEitherSide() {
        promise = "Promise 18, so much more (-99 .. 99, below 0: less)";
        ShoeingDay x = told(ONE);
        due("more by 99", x.more(0, 0, 99), 99);
        due("more by -99", x.more(0, 0, -99), 0);
        due("more by 0", x.more(0, 0, 0), 0);
        due("acts", x.about(4), 3);
        for (int by : new int[] {MIN, MIN + 1, -200, -101, -100, 100, 101, 200, MAX - 1, MAX}) {
            refused("more by " + by, one -> one.more(0, 0, by));
            refused("more by " + by + " of 0", one -> put0(one, 0), one -> one.more(0, 0, by));
            refused("more by " + by + " of 99", one -> put0(one, 99), one -> one.more(0, 0, by));
        }
    }

    private static void put0(ShoeingDay x, int quarters) {
        put(x, ONE + "hours a a " + quarters + ";");
        x.yard();
    }

    private static void moreUpTo99DownTo0() {
        promise = "Promise 18, NONE, doing nothing, if it would lack less than 0 or more than 99";
        for (int lacked : new int[] {0, 1, 50, 98, 99}) {
            ShoeingDay x = told(ONE + "hours a a " + lacked + ";");
            due("up to 99", x.more(0, 0, 99 - lacked), 99);
            due("down to 0", x.more(0, 0, -99), 0);
            due("lacks", x.lacks(0, 0), 0);
            if (lacked > 0) {
                refused(lacked + " up to 100", one -> put0(one, lacked), one -> one.more(0, 0, 100 - lacked));
            }
            if (lacked < 99) {
                refused(lacked + " down to -1", one -> put0(one, lacked), one -> one.more(0, 0, -1 - lacked));
            }
        }
        refused("up to 100", one -> one.more(1, 1, 98));
        refused("down to -1", one -> one.more(1, 1, -3));
        ShoeingDay x = new ShoeingDay();
        busyStory(x);
        due("up to 99", x.more(1, 1, 97), 99);
        due("down to 0", x.more(1, 1, -99), 0);
    }

    private static void moreOfWhatCannotBe() {
        promise = "Promise 18, NONE, doing nothing, if one can't be";
        ShoeingDay x = told(FULL);
        due("the last pair", x.more(7, 9, 1), 1);
        due("no smith", x.more(8, 9, 1), NONE);
        due("no horse", x.more(7, 10, 1), NONE);
        due("lacked", x.about(3), 1);
        due("acts", x.about(4), 1);
        for (int far : FAR) {
            refused("more(" + far + ", 0, 1)", one -> one.more(far, 0, 1));
            refused("more(0, " + far + ", 1)", one -> one.more(0, far, 1));
        }
        refused("more(2, 0, 1)", one -> one.more(2, 0, 1));
        refused("more(0, 2, 1)", one -> one.more(0, 2, 1));
        due("without horses", told(smiths(8)).more(0, 0, 0), NONE);
        due("without smiths", told(horses(8)).more(0, 0, 0), NONE);
    }

    private static void breaksOfWhatCannotBe() {
        promise = "Promise 19, NONE, doing nothing, if one can't be, both are one";
        ShoeingDay x = told(FULL + "hours a a 3;hours h j 4;");
        due("the first for the last", x.breaks(7, 0), 4);
        due("the last for the first", x.breaks(0, 7), 7);
        due("no smith", x.breaks(8, 7), NONE);
        due("no other", x.breaks(7, 8), NONE);
        due("acts", x.about(4), 2);
        for (int smith = 0; smith < 2; smith++) {
            int both = smith;
            refused("breaks(" + both + ", " + both + ")", one -> one.breaks(both, both));
        }
        for (int far : FAR) {
            refused("breaks(" + far + ", 0)", one -> one.breaks(far, 0));
            refused("breaks(0, " + far + ")", one -> one.breaks(0, far));
            refused("breaks(" + far + ", " + far + ")", one -> one.breaks(far, far));
        }
        refused("breaks(2, 0)", one -> one.breaks(2, 0));
        refused("breaks(0, 2)", one -> one.breaks(0, 2));
    }

    private static void twoSmiths(ShoeingDay x, String hours) {
        put(x, smiths(2) + horses(3) + hours);
        x.yard();
    }

    private static void breaksUpTo99() {
        promise = "Promise 19, NONE, doing nothing, if a pair would lack more than 99";
        ShoeingDay x = told(smiths(2) + horses(3) + "hours a a 1;hours b a 98;hours a c 99;hours b b 99;");
        due("99 of each", x.breaks(0, 1), 100);
        due("lacks(1, 0)", x.lacks(1, 0), 99);
        due("lacks(1, 1)", x.lacks(1, 1), 99);
        due("lacks(1, 2)", x.lacks(1, 2), 99);
        due("sum of who broke down", x.sum(0, false), 0);
        due("and the other way about", x.breaks(1, 0), 297);
        due("sum of the other", x.sum(0, false), 297);
        String[] hours = {"hours a a 1;hours b a 99;hours a c 5;", "hours a a 5;hours a c 2;hours b c 98;",
            "hours a b 99;hours b b 99;", "hours a a 1;hours a b 50;hours b b 50;"};
        for (String told : hours) {
            refused("100 of one: " + told, one -> twoSmiths(one, told), one -> one.breaks(0, 1));
            refused("the other way about: " + told, one -> twoSmiths(one, told), one -> one.breaks(1, 0));
        }
    }

    private static void breaksOfNothing() {
        promise = "Promise 19, how many QUARTERS (an ACT)";
        ShoeingDay x = told(smiths(2) + horses(3));
        due("breaks(0, 1) of nothing", x.breaks(0, 1), 0);
        due("acts", x.about(4), 1);
        x.more(0, 0, 5);
        due("breaks(0, 1)", x.breaks(0, 1), 5);
        due("he can have more to do again", x.more(0, 0, 2), 2);
        due("undo", x.undo(), true);
        due("undo", x.undo(), true);
        due("lacks(0, 0)", x.lacks(0, 0), 5);
        due("lacks(1, 0)", x.lacks(1, 0), 0);
        ShoeingDay none = told(smiths(2));
        due("without horses", none.breaks(0, 1), 0);
        due("acts", none.about(4), 1);
    }

    private static void undoOfNothing() {
        promise = "Promise 20, false if there is none";
        refused("undo in a new object", one -> { }, one -> one.undo() ? 1 : NONE);
        ShoeingDay x = told(TWO);
        due("undo", x.undo(), false);
        x.run(1);
        due("undo", x.undo(), true);
        due("undo", x.undo(), false);
        due("undone", x.about(5), 1);
        due("redo", x.redo(), true);
        due("acts", x.about(4), 1);
        refused("undo with nothing but undone", one -> {
            put(one, TWO);
            one.yard();
            one.more(0, 0, 9);
            one.undo();
        }, one -> one.undo() ? 1 : NONE);
    }

    private static void redoOfNothing() {
        promise = "Promise 21, false if there is none";
        refused("redo in a new object", one -> { }, one -> one.redo() ? 1 : NONE);
        ShoeingDay x = told(TWO);
        due("redo", x.redo(), false);
        x.run(1);
        due("redo", x.redo(), false);
        x.undo();
        due("redo", x.redo(), true);
        due("redo", x.redo(), false);
        due("quarter", x.about(2), 1);
        refused("redo with nothing undone", one -> {
            put(one, TWO);
            one.yard();
            one.more(0, 0, 9);
        }, one -> one.redo() ? 1 : NONE);
    }

    private static void undoTakesBackTheLatest() {
        promise = "Terms 3, UNDO takes back the latest ACT that was not, REDO does that again which was taken back last";
        ShoeingDay x = told(ONE);
        x.more(0, 0, 10);
        x.run(3);
        x.more(0, 0, 20);
        int[] lacked = {0, 10, 7, 27};
        int[] quarters = {0, 0, 3, 3};
        for (int i = 2; i >= 0; i--) {
            due("undo", x.undo(), true);
            due("lacks", x.lacks(0, 0), lacked[i]);
            due("quarter", x.about(2), quarters[i]);
            due("acts", x.about(4), i);
            due("undone", x.about(5), 3 - i);
        }
        for (int i = 1; i <= 3; i++) {
            due("redo", x.redo(), true);
            due("lacks", x.lacks(0, 0), lacked[i]);
            due("quarter", x.about(2), quarters[i]);
            due("acts", x.about(4), i);
            due("undone", x.about(5), 3 - i);
        }
    }

    private static void redoTillAnotherAct() {
        promise = "Terms 3, REDO (till another ACT)";
        for (int act = 0; act < 4; act++) {
            ShoeingDay x = told(smiths(2) + horses(1));
            x.more(0, 0, 1);
            x.undo();
            due("undone", x.about(5), 1);
            due("an act", act == 0 ? x.run(1) : act == 1 ? x.more(0, 0, 0) : act == 2 ? x.breaks(0, 1) : x.more(1, 0, 0), 0);
            due("undone", x.about(5), 0);
            due("redo", x.redo(), false);
            due("acts", x.about(4), 1);
            due("undo", x.undo(), true);
            due("lacked", x.about(3), 0);
        }
    }

    private static void redoStaysBehindWhatIsNoAct() {
        promise = "Terms 3, REDO: what is no ACT, or is refused, takes nothing from it";
        ShoeingDay x = told(TWO);
        x.more(0, 0, 9);
        x.undo();
        x.run(0);
        x.run(1000);
        x.more(0, 0, 100);
        x.more(0, 0, -3);
        x.more(2, 0, 1);
        x.breaks(0, 0);
        x.breaks(0, 2);
        x.round(1);
        x.pair(0, 0);
        x.hush();
        x.sight(0, 0, 0);
        x.untell(0);
        x.later(1);
        x.image(0);
        x.back(1);
        x.feed(-1, -1, -1, -1, -1);
        x.yard();
        due("undone", x.about(5), 1);
        due("redo", x.redo(), true);
        due("lacks(0, 0)", x.lacks(0, 0), 11);
    }

    private static void fortyAreKept() {
        promise = "Terms 3, 40 ACTS at most are kept";
        for (int acts : new int[] {39, 40, 41, 42, 80, 81, 82, 83}) {
            ShoeingDay x = told(ONE);
            for (int i = 1; i <= acts; i++) {
                x.more(0, 0, 1);
            }
            int kept = Math.min(acts, 40);
            due("acts of " + acts, x.about(4), kept);
            for (int i = 1; i <= kept; i++) {
                due("undo " + i + " of " + acts, x.undo(), true);
                due("lacks", x.lacks(0, 0), acts - i);
            }
            due("one more undo", x.undo(), false);
            due("lacks", x.lacks(0, 0), acts - kept);
            due("undone", x.about(5), kept);
            for (int i = 1; i <= kept; i++) {
                due("redo " + i + " of " + acts, x.redo(), true);
            }
            due("one more redo", x.redo(), false);
            due("lacks", x.lacks(0, 0), acts);
        }
    }

    private static void theOldestGo() {
        promise = "Terms 3, the oldest ACTS go";
        ShoeingDay x = told(ONE + "hours a a 50;");
        x.run(7);
        for (int i = 0; i < 39; i++) {
            x.more(0, 0, 1);
        }
        for (int i = 0; i < 40; i++) {
            due("undo", x.undo(), true);
        }
        due("the run is undone, too", x.about(2), 0);
        for (int i = 0; i < 40; i++) {
            due("redo", x.redo(), true);
        }
        x.more(0, 0, 1);
        for (int i = 0; i < 40; i++) {
            due("undo", x.undo(), true);
        }
        due("undo of the run", x.undo(), false);
        due("the run stays", x.about(2), 7);
        due("lacks", x.lacks(0, 0), 43);
        for (int i = 0; i < 10; i++) {
            x.redo();
        }
        due("an act in the midst", x.more(0, 0, 9), 62);
        due("acts", x.about(4), 11);
        due("undone", x.about(5), 0);
    }

    private static void roundOnEitherSide() {
        promise = "Promise 22, that is to LAST so long (1 .. 99); NONE, doing nothing, for another number";
        ShoeingDay x = told(TWO);
        due("round(1)", x.round(1), 0);
        due("round(99)", x.round(99), 1);
        due("both together", x.judge(2), 100);
        for (int lasts : new int[] {MIN, -99, -1, 0, 100, 101, MAX}) {
            refused("round(" + lasts + ")", one -> one.round(lasts));
        }
        due("in a new object", new ShoeingDay().round(1), 0);
    }

    private static void rounds(ShoeingDay x, int count) {
        put(x, TWO);
        x.yard();
        for (int i = 0; i < count; i++) {
            x.round(1);
        }
    }

    private static void twelveRounds() {
        promise = "Promise 22, its number; NONE, doing nothing, if there are 12";
        ShoeingDay x = told(TWO);
        for (int i = 0; i < 12; i++) {
            due("round " + i, x.round(99), i);
            due("rounds told", x.about(6), i + 1);
        }
        due("all together", x.judge(2), 12 * 99);
        refused("a thirteenth", one -> rounds(one, 12), one -> one.round(1));
        due("hush", x.hush(), 12);
        for (int i = 0; i < 12; i++) {
            due("round " + i + " behind hush", x.round(1), i);
        }
        due("a thirteenth behind hush", x.round(1), NONE);
    }

    private static void pairs(ShoeingDay x, int count) {
        rounds(x, 1);
        for (int i = 0; i < count; i++) {
            x.pair(i % 2, i % 2);
        }
    }

    private static void tenPairs() {
        promise = "Promise 23, how many it has; NONE, doing nothing, if it has 10";
        ShoeingDay x = told(TWO);
        for (int round = 0; round < 12; round++) {
            x.round(1);
            for (int i = 1; i <= 10; i++) {
                due("pair " + i + " of round " + round, x.pair(i % 2, i % 2), i);
            }
            due("an eleventh of round " + round, x.pair(0, 0), NONE);
        }
        refused("an eleventh", one -> pairs(one, 10), one -> one.pair(0, 1));
        ShoeingDay nine = new ShoeingDay();
        pairs(nine, 9);
        due("a tenth", nine.pair(0, 1), 10);
    }

    private static void pairOfWhatCannotBe() {
        promise = "Promise 23, NONE, doing nothing, if one can't be, or no ROUND is told";
        refused("no round is told", one -> rounds(one, 0), one -> one.pair(0, 0));
        refused("no round is told behind hush", one -> {
            pairs(one, 2);
            one.hush();
        }, one -> one.pair(0, 0));
        for (int far : FAR) {
            refused("pair(" + far + ", 0)", one -> one.pair(far, 0));
            refused("pair(0, " + far + ")", one -> one.pair(0, far));
        }
        refused("pair(2, 0)", one -> one.pair(2, 0));
        refused("pair(0, 2)", one -> one.pair(0, 2));
        ShoeingDay x = told(FULL);
        x.round(1);
        due("no smith", x.pair(8, 9), NONE);
        due("no horse", x.pair(7, 10), NONE);
        due("the last pair", x.pair(7, 9), 1);
        ShoeingDay empty = new ShoeingDay();
        empty.round(1);
        due("a round in a yard of nobody", empty.pair(0, 0), NONE);
    }

    private static void pairComesToTheLatest() {
        promise = "Promise 23, a pair comes to the latest TOLD ROUND";
        ShoeingDay x = told(TWO);
        x.round(1);
        due("pair", x.pair(0, 0), 1);
        x.round(1);
        due("pair of the second", x.pair(0, 0), 1);
        due("both are good", x.judge(0), NONE);
        due("lacked behind both", x.judge(1), 5);
        x.pair(0, 1);
        due("the second is not", x.judge(0), 1);
        due("the first is, still", x.judge(1), 6);
    }

    private static void hushOfNoneAndOfTwelve() {
        promise = "Promise 24, no ROUNDS are TOLD: how many there were";
        ShoeingDay x = told(TWO);
        due("hush of none", x.hush(), 0);
        for (int count : new int[] {1, 11, 12}) {
            for (int i = 0; i < count; i++) {
                x.round(2);
                x.pair(0, 0);
            }
            due("hush of " + count, x.hush(), count);
            due("hush once more", x.hush(), 0);
            due("rounds told", x.about(6), 0);
            due("judge(2)", x.judge(2), 0);
        }
        x.round(3);
        due("the pairs of before are gone", x.judge(1), 7);
        due("its first pair", x.pair(1, 1), 1);
    }

    private static void judgeOnEitherSide() {
        promise = "Promise 25, NONE for another what";
        ShoeingDay x = told(TWO);
        x.round(1);
        x.pair(0, 0);
        judgedAs(x, NONE, 6, 1);
        for (int what : new int[] {MIN, -2, -1, 3, 4, MAX}) {
            due("judge(" + what + ")", x.judge(what), NONE);
        }
    }

    private static void judgeOfNoRounds() {
        promise = "Promise 25, behind all, if there is none (no ROUND at all, or one without pairs)";
        judgedAs(told(TWO), NONE, 7, 0);
        judgedAs(new ShoeingDay(), NONE, 0, 0);
        ShoeingDay x = new ShoeingDay();
        x.round(99);
        judgedAs(x, NONE, 0, 99);
        ShoeingDay two = told(TWO);
        two.round(99);
        judgedAs(two, NONE, 7, 99);
    }

    private static void judgeSomebodyStandsTwice() {
        promise = "Promise 25, the first by which somebody stands twice";
        int[][] second = {{0, 1}, {1, 0}, {0, 0}};
        for (int[] pair : second) {
            ShoeingDay x = told(smiths(2) + horses(2) + "hours a a 9;hours a b 9;hours b a 9;hours b b 9;");
            x.round(1);
            x.pair(0, 0);
            judgedAs(x, NONE, 35, 1);
            x.pair(pair[0], pair[1]);
            judgedAs(x, 0, 36, 0);
        }
        ShoeingDay x = told(FULL + "hours a a 9;hours a j 9;hours h a 9;hours h j 9;");
        x.round(1);
        x.pair(0, 0);
        x.pair(7, 9);
        judgedAs(x, NONE, 34, 1);
        x.round(1);
        x.pair(0, 9);
        x.pair(7, 0);
        judgedAs(x, NONE, 32, 2);
        x.pair(7, 9);
        judgedAs(x, 1, 34, 1);
    }

    private static void judgeAPairThatLacksLess() {
        promise = "Promise 25, or a pair lacks less";
        for (int lasts = 1; lasts <= 99; lasts += 49) {
            ShoeingDay x = told(ONE + "hours a a 50;");
            x.round(lasts);
            x.pair(0, 0);
            boolean can = lasts <= 50;
            judgedAs(x, can ? NONE : 0, can ? 50 - lasts : 50, can ? lasts : 0);
        }
        ShoeingDay x = told(ONE + "hours a a 50;");
        x.round(51);
        x.pair(0, 0);
        judgedAs(x, 0, 50, 0);
        x.more(0, 0, 1);
        judgedAs(x, NONE, 0, 51);
        x.round(1);
        x.pair(0, 0);
        judgedAs(x, 1, 0, 51);
        x.more(0, 0, 1);
        judgedAs(x, NONE, 0, 52);
        // the last of the pairs lacks less: none of that round counts
        ShoeingDay two = told(TWO);
        two.round(2);
        two.pair(1, 1);
        two.pair(0, 0);
        judgedAs(two, NONE, 3, 2);
        two.round(2);
        two.pair(1, 1);
        judgedAs(two, 1, 3, 2);
    }

    private static void judgeTheTwelfth() {
        promise = "Promise 25, the first of twelve, and the twelfth";
        ShoeingDay x = told(ONE + "hours a a 11;");
        for (int i = 0; i < 12; i++) {
            x.round(1);
            x.pair(0, 0);
        }
        judgedAs(x, 11, 0, 11);
        x.more(0, 0, 1);
        judgedAs(x, NONE, 0, 12);
        x.more(0, 0, -12);
        judgedAs(x, 0, 0, 0);
        x.more(0, 0, 1);
        judgedAs(x, 1, 0, 1);
    }

    private static void judgeByWhatIsLackedNow() {
        promise = "Terms 3, TOLD ROUNDS are judged by what is lacked now";
        ShoeingDay x = told(ONE + "hours a a 5;");
        x.round(5);
        x.pair(0, 0);
        judgedAs(x, NONE, 0, 5);
        x.run(1);
        judgedAs(x, 0, 4, 0);
        x.undo();
        judgedAs(x, NONE, 0, 5);
        x.image(0);
        x.more(0, 0, 9);
        judgedAs(x, NONE, 9, 5);
        x.back(0);
        judgedAs(x, NONE, 0, 5);
        due("judging changes nothing", x.lacks(0, 0), 5);
    }
}
