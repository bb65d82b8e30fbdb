/** The boundary cases of sums, rounds, wages, parted, even and proof (terms, ==== 2, promises 6 to 16). */
public final class DayBoundsTest extends Kit {
    private static final int[] FAR = {MIN, MIN + 1, -11, -2, -1, 11, 99, 100, MAX - 1, MAX};
    private static final String FULL = fullYard();

    public static void main(String[] args) {
        lacksOnEitherSide();
        lacksOfNobody();
        sumsOnEitherSide();
        sumsUpTo990();
        leastOfBothSides();
        busyOfLeastZero();
        busyOfOneSide();
        roundsIfLeastIsAboveZero();
        roundsLeastHorseFirstNoneLast();
        lastsNoMoreThanAPairLacks();
        lastsNoMoreThanASmithLeaves();
        lastsNoMoreThanAHorseLeaves();
        dayLastsLeast();
        roundsOnEitherSide();
        withOnEitherSide();
        wagesFromLateOn();
        wagesInEarnest();
        wagesLateAt9999();
        wagesAtTheirMost();
        partedOnEitherSide();
        partedOfWhatCannotBe();
        partedOverOneDay();
        partedOverNineDays();
        partedCutOrUp();
        partedOfAllTogether();
        partedNoPairAboveItsShare();
        partedNoSmithAboveHisShare();
        partedNoHorseAboveItsShare();
        partedNoHorseBelowItsShare();
        partedNotAboveTheShareOfAll();
        allIsOfNow();
        evenWithoutSmiths();
        evenUpToTheNextWholeNumber();
        evenNotByOthersForThose();
        evenOfThoseWhoLendNothing();
        proofLeastAsBits();
        proofOfAllEight();
        finish("the boundaries of the day hold");
    }

    /** Eight smiths, ten horses, sixty lines: each smith but the last with horses a .. h, the last with i and j, too. */
    private static String fullYard() {
        StringBuilder text = new StringBuilder(masters(8)).append(horses(10));
        for (int i = 0; i < 60; i++) {
            int smith = i < 56 ? i / 8 : 7;
            int horse = i < 56 ? i % 8 : i - 50;
            text.append("hours ").append((char) ('a' + smith)).append(' ').append((char) ('a' + horse)).append(' ');
            text.append(i * 37 % 100).append(';');
        }
        return text.toString();
    }

    private static void lacksOnEitherSide() {
        promise = "Promise 6, NONE if one can't be";
        ShoeingDay x = told(FULL);
        due("lacks(0, 0)", x.lacks(0, 0), 0);
        due("lacks(7, 9)", x.lacks(7, 9), 59 * 37 % 100);
        due("lacks(7, 6)", x.lacks(7, 6), 56 * 37 % 100);
        due("lacks(7, 5), not told", x.lacks(7, 5), 0);
        due("lacks(6, 7)", x.lacks(6, 7), 55 * 37 % 100);
        due("lacks(8, 0)", x.lacks(8, 0), NONE);
        due("lacks(0, 10)", x.lacks(0, 10), NONE);
        due("lacks(8, 10)", x.lacks(8, 10), NONE);
        for (int far : FAR) {
            due("lacks(" + far + ", 0)", x.lacks(far, 0), NONE);
            due("lacks(0, " + far + ")", x.lacks(0, far), NONE);
        }
    }

    private static void lacksOfNobody() {
        promise = "Promises 6 and 7, NONE if there is none such";
        ShoeingDay smithsAlone = told(smiths(2));
        due("lacks without horses", smithsAlone.lacks(0, 0), NONE);
        due("sum of a smith without horses", smithsAlone.sum(1, false), 0);
        due("sum of no smith", smithsAlone.sum(2, false), NONE);
        due("sum of no horse", smithsAlone.sum(0, true), NONE);
        ShoeingDay horsesAlone = told(horses(2));
        due("lacks without smiths", horsesAlone.lacks(0, 0), NONE);
        due("sum of a horse without smiths", horsesAlone.sum(1, true), 0);
        due("sum of no horse", horsesAlone.sum(2, true), NONE);
        due("sum of no smith", horsesAlone.sum(0, false), NONE);
    }

    private static void sumsOnEitherSide() {
        promise = "Promise 7, NONE if there is none such";
        ShoeingDay x = told(smiths(8) + horses(10) + "hours a a 1;hours h j 2;");
        due("sum(0, false)", x.sum(0, false), 1);
        due("sum(7, false)", x.sum(7, false), 2);
        due("sum(8, false)", x.sum(8, false), NONE);
        due("sum(9, false)", x.sum(9, false), NONE);
        due("sum(0, true)", x.sum(0, true), 1);
        due("sum(9, true)", x.sum(9, true), 2);
        due("sum(8, true)", x.sum(8, true), 0);
        due("sum(10, true)", x.sum(10, true), NONE);
        for (int far : FAR) {
            due("sum(" + far + ", false)", x.sum(far, false), NONE);
            due("sum(" + far + ", true)", x.sum(far, true), NONE);
        }
    }

    /** Ten pairs of 99 for a smith, eight of 99 for a horse: more there can't be. */
    private static void sumsUpTo990() {
        promise = "Terms 2, the SUM is what he lacks with all, at its most";
        ShoeingDay x = told(smiths(8) + horses(10));
        for (int horse = 0; horse < 10; horse++) {
            x.more(7, horse, 99);
        }
        for (int smith = 0; smith < 7; smith++) {
            x.more(smith, 9, 99);
        }
        due("sum of a smith", x.sum(7, false), 990);
        due("sum of a horse", x.sum(9, true), 792);
        due("least", x.least(), 990);
        due("busy smiths", x.busy(false), 128);
        due("busy horses", x.busy(true), 0);
        due("lacked", x.about(3), 990 + 693);
    }

    private static void leastOfBothSides() {
        promise = "Terms 2, LEAST: the greatest of all SUMS; promise 8";
        due("of nothing", new ShoeingDay().least(), 0);
        due("of no hours", told(smiths(2) + horses(2)).least(), 0);
        due("the first smith's", told(smiths(2) + horses(2) + "hours a a 2;hours a b 3;").least(), 5);
        due("the first horse's", told(smiths(2) + horses(2) + "hours a a 2;hours b a 3;").least(), 5);
        due("a smith's", told(smiths(2) + horses(2) + "hours b a 2;hours b b 3;hours a a 1;").least(), 5);
        due("a horse's", told(smiths(2) + horses(2) + "hours a b 2;hours b b 3;hours a a 1;").least(), 5);
        due("the last smith's", told(smiths(8) + horses(1) + "hours h a 7;").least(), 7);
        ShoeingDay x = told(smiths(8) + horses(10) + "hours a j 7;hours b j 1;");
        due("the last horse's", x.least(), 8);
        due("run", x.run(8), 8);
        due("now", x.least(), 0);
    }

    private static void busyOfLeastZero() {
        promise = "Promise 9, all whose SUM is LEAST, of LEAST 0, too";
        ShoeingDay none = new ShoeingDay();
        due("no smiths", none.busy(false), 0);
        due("no horses", none.busy(true), 0);
        for (int count = 1; count <= 8; count++) {
            due(count + " smiths", told(smiths(count)).busy(false), (1 << count) - 1);
        }
        for (int count = 1; count <= 10; count++) {
            due(count + " horses", told(horses(count)).busy(true), (1 << count) - 1);
        }
        ShoeingDay x = told(smiths(8) + horses(10) + "hours a a 1;");
        due("busy smiths", x.busy(false), 1);
        due("busy horses", x.busy(true), 1);
        x.run(1);
        due("busy smiths then", x.busy(false), 255);
        due("busy horses then", x.busy(true), 1023);
    }

    private static void busyOfOneSide() {
        promise = "Terms 2, BUSY are those whose SUM it is; promise 9";
        ShoeingDay x = told(smiths(2) + horses(2) + "hours a a 3;hours b b 2;");
        due("smiths", x.busy(false), 1);
        due("horses", x.busy(true), 1);
        x.more(1, 1, 1);
        due("smiths, both the same", x.busy(false), 3);
        due("horses, both the same", x.busy(true), 3);
        x.more(1, 0, 1);
        due("smiths, one more", x.busy(false), 2);
        due("horses, one more", x.busy(true), 1);
    }

    private static void roundsIfLeastIsAboveZero() {
        promise = "Terms 2, there always is a ROUND, if LEAST is above 0; promise 10";
        ShoeingDay x = told(smiths(1) + horses(1));
        due("LEAST 0", x.rounds(), 0);
        due("lasts(0)", x.lasts(0), NONE);
        due("with(0, 0)", x.with(0, 0), NONE);
        x.more(0, 0, 1);
        due("LEAST 1", x.rounds(), 1);
        roundIs(x, 0, 1, 0);
        due("smiths without horses", told(smiths(8)).rounds(), 0);
        due("horses without smiths", told(horses(10)).rounds(), 0);
    }

    private static void roundsLeastHorseFirstNoneLast() {
        promise = "Terms 2, of all ROUNDS the first: by SMITHS, the least HORSE first, none last";
        ShoeingDay x = told(smiths(2) + horses(3) + "hours a b 1;hours a c 1;hours b a 1;hours b b 1;");
        due("rounds", x.rounds(), 2);
        roundIs(x, 0, 1, 1, 0);
        roundIs(x, 1, 1, 2, 1);
        // a is not busy, but to stand with the last horse goes ahead of standing with none
        x = told(smiths(2) + horses(10) + "hours a j 1;hours b b 5;");
        due("rounds", x.rounds(), 2);
        roundIs(x, 0, 1, 9, 1);
        roundIs(x, 1, 4, NONE, 1);
        // b and the horse c are busy: b can't have a before c is covered by another
        x = told(smiths(2) + horses(3) + "hours a b 1;hours a c 1;hours b a 1;hours b c 4;");
        due("rounds", x.rounds(), 3);
        roundIs(x, 0, 1, 1, 2);
        roundIs(x, 1, 1, 2, 0);
        roundIs(x, 2, 3, NONE, 2);
    }

    private static void lastsNoMoreThanAPairLacks() {
        promise = "Terms 2, it LASTS no more than any of its pairs lacks";
        ShoeingDay x = told(smiths(2) + horses(2) + "hours a a 5;hours b b 3;hours b a 2;");
        due("rounds", x.rounds(), 3);
        roundIs(x, 0, 3, 0, 1);
        roundIs(x, 1, 2, 0, NONE);
        roundIs(x, 2, 2, NONE, 0);
        roundIs(told(smiths(1) + horses(1) + "hours a a 99;"), 0, 99, 0);
    }

    private static void lastsNoMoreThanASmithLeaves() {
        promise = "Terms 2, it LASTS no more than LEAST less the SUM of any SMITH who stands in none";
        ShoeingDay x = told(smiths(3) + horses(2) + "hours a a 5;hours b b 5;hours c a 3;hours c b 3;");
        due("least", x.least(), 8);
        due("rounds", x.rounds(), 3);
        roundIs(x, 0, 2, 0, 1, NONE);
        roundIs(x, 1, 3, 0, NONE, 1);
        roundIs(x, 2, 3, NONE, 1, 0);
    }

    private static void lastsNoMoreThanAHorseLeaves() {
        promise = "Terms 2, it LASTS no more than LEAST less the SUM of any HORSE who stands in none";
        ShoeingDay x = told(smiths(2) + horses(3) + "hours a a 5;hours b b 5;hours a c 3;hours b c 3;");
        due("least", x.least(), 8);
        due("rounds", x.rounds(), 3);
        roundIs(x, 0, 2, 0, 1);
        roundIs(x, 1, 3, 0, 2);
        roundIs(x, 2, 3, 2, 1);
    }

    private static void dayLastsLeast() {
        promise = "Terms 2, the DAY: till nothing is lacked (it LASTS LEAST, all together)";
        ShoeingDay x = told(FULL);
        int together = 0;
        int rounds = x.rounds();
        for (int i = 0; i < rounds; i++) {
            together += x.lasts(i);
        }
        due("all together", together, x.least());
        due("lasts behind them", x.lasts(rounds), NONE);
        due("run", x.run(999), together);
        due("lacked", x.about(3), 0);
        due("rounds then", x.rounds(), 0);
    }

    private static void roundsOnEitherSide() {
        promise = "Promise 11, NONE if there is none such";
        ShoeingDay x = told(TWO);
        due("rounds", x.rounds(), 3);
        int[] lasts = {2, 1, 1};
        for (int i = 0; i < 3; i++) {
            due("lasts(" + i + ")", x.lasts(i), lasts[i]);
        }
        for (int i : new int[] {MIN, -8, -2, -1, 3, 4, 12, 99, 100, 101, MAX}) {
            due("lasts(" + i + ")", x.lasts(i), NONE);
        }
        x.run(3);
        due("lasts(0) from now on", x.lasts(0), 1);
        due("lasts(1) from now on", x.lasts(1), NONE);
    }

    private static void withOnEitherSide() {
        promise = "Promise 12, NONE if with none, or one can't be";
        ShoeingDay x = told(TWO);
        due("with none", x.with(2, 0), NONE);
        due("with(2, 1)", x.with(2, 1), 1);
        for (int i : new int[] {MIN, -8, -1, 3, 4, 12, 99, 100, 1 << 29, MAX}) {
            due("with(" + i + ", 0)", x.with(i, 0), NONE);
            due("with(" + i + ", 1)", x.with(i, 1), NONE);
        }
        for (int smith : new int[] {MIN, -8, -1, 2, 7, 8, 9, 16, MAX}) {
            due("with(0, " + smith + ")", x.with(0, smith), NONE);
            due("with(1, " + smith + ")", x.with(1, smith), NONE);
        }
        ShoeingDay full = told(smiths(8) + horses(10) + "hours h j 1;");
        due("the last of both", full.with(0, 7), 9);
        due("a ninth", full.with(0, 8), NONE);
    }

    private static void wagesFromLateOn() {
        promise = "Terms 2, WAGES: twice it in those from late on (QUARTERS are numbered from 0)";
        String yard = "smith a wage 7;horse x;hours a x 5;";
        due("none is late", told(yard).wages(), 35);
        int[] due = {70, 63, 56, 49, 42, 35, 35};
        for (int late = 0; late < due.length; late++) {
            due("late " + late, told(yard + "late " + late + ";").wages(), due[late]);
        }
        due("late 9999", told(yard + "late 9999;").wages(), 35);
        due("nothing lacked", told("smith a wage 7;horse x;late 0;").wages(), 0);
    }

    private static void wagesInEarnest() {
        promise = "Terms 2, QUARTERS are numbered in earnest from the beginning of the day; promise 13";
        ShoeingDay x = told("smith a wage 7;horse x;hours a x 5;late 3;");
        int[] due = {49, 42, 35, 28, 14, 0};
        for (int quarter = 0; quarter <= 5; quarter++) {
            due("from " + quarter + " on", x.wages(), due[quarter]);
            x.run(1);
        }
        due("undo of a run of nothing", x.undo(), true);
        due("undo", x.undo(), true);
        due("undo", x.undo(), true);
        due("from 3 on", x.wages(), 28);
        x.undo();
        due("from 2 on", x.wages(), 35);
    }

    private static void wagesLateAt9999() {
        promise = "Terms 2, WAGES: from late on, the latest that can be told";
        ShoeingDay x = told("smith a wage 7;horse x;late 9999;");
        for (int i = 0; i < 100; i++) {
            x.more(0, 0, 99);
            x.run(99);
        }
        x.more(0, 0, 99);
        due("run", x.run(98), 98);
        due("quarter", x.about(2), 9998);
        due("in 9998", x.wages(), 7);
        x.more(0, 0, 1);
        due("in 9998 and 9999", x.wages(), 21);
        x.run(1);
        due("in 9999", x.wages(), 14);
    }

    private static void wagesAtTheirMost() {
        promise = "Promise 13, the greatest WAGES";
        ShoeingDay x = told(lines("smith ", 8, " wage 99;") + horses(10) + "late 0;");
        for (int cell = 0; cell < 80; cell++) {
            x.more(cell / 10, cell % 10, 99);
        }
        due("least", x.least(), 990);
        due("wages", x.wages(), 80 * 99 * 99 * 2);
        due("run", x.run(989), 989);
        due("each has one left", x.about(3), 8);
    }

    private static void partedOnEitherSide() {
        promise = "Promise 14, PARTED over n days (1 .. 9), of a day (0 .. n - 1)";
        ShoeingDay x = told(smiths(1) + horses(1) + "hours a a 99;");
        for (int n = -1; n <= 10; n++) {
            boolean can = n >= 1 && n <= 9;
            due("parted(" + n + ", -1, 0, 0)", x.parted(n, -1, 0, 0), NONE);
            due("parted(" + n + ", n, 0, 0)", x.parted(n, n, 0, 0), NONE);
            due("parted(" + n + ", 0, 0, 0)", x.parted(n, 0, 0, 0), can ? 99 / n : NONE);
            due("parted(" + n + ", n - 1, 0, 0)", x.parted(n, n - 1, 0, 0), can ? (99 + n - 1) / n : NONE);
        }
        for (int far : FAR) {
            due("parted(" + far + ", 0, 0, 0)", x.parted(far, 0, 0, 0), NONE);
            due("parted(9, " + far + ", 0, 0)", x.parted(9, far, 0, 0), NONE);
        }
    }

    private static void partedOfWhatCannotBe() {
        promise = "Promise 14, NONE if one can't be";
        ShoeingDay x = told(smiths(8) + horses(10) + "hours a a 1;hours h j 2;");
        due("parted(1, 0, 0, 0)", x.parted(1, 0, 0, 0), 1);
        due("parted(1, 0, 7, 9)", x.parted(1, 0, 7, 9), 2);
        due("parted(1, 0, 8, 0)", x.parted(1, 0, 8, 0), NONE);
        due("parted(1, 0, 0, 10)", x.parted(1, 0, 0, 10), NONE);
        for (int far : FAR) {
            due("parted(1, 0, " + far + ", 0)", x.parted(1, 0, far, 0), NONE);
            due("parted(1, 0, 0, " + far + ")", x.parted(1, 0, 0, far), NONE);
        }
        due("without horses", told(smiths(8)).parted(1, 0, 0, 0), NONE);
        due("without smiths", told(horses(10)).parted(1, 0, 0, 0), NONE);
        due("nothing lacked", told(smiths(1) + horses(1)).parted(9, 8, 0, 0), 0);
    }

    private static void partedOverOneDay() {
        promise = "Terms 2, PARTED over 1 day: all of it";
        ShoeingDay x = told(FULL);
        for (int cell = 0; cell < 80; cell++) {
            due("parted of " + cell, x.parted(1, 0, cell / 10, cell % 10), x.lacks(cell / 10, cell % 10));
        }
    }

    private static void partedOverNineDays() {
        promise = "Terms 2, PARTED over 9 days, the less first";
        for (int quarters : new int[] {0, 1, 8, 9, 10, 17, 18, 19, 99}) {
            ShoeingDay x = told(smiths(1) + horses(1) + "hours a a " + quarters + ";");
            for (int day = 0; day < 9; day++) {
                int share = quarters / 9 + (day >= 9 - quarters % 9 ? 1 : 0);
                due(quarters + " on day " + day, x.parted(9, day, 0, 0), share);
            }
        }
    }

    private static void partsAre(ShoeingDay x, int n, int day, int... shares) {
        int horses = x.about(1);
        for (int cell = 0; cell < shares.length; cell++) {
            int smith = cell / horses;
            int horse = cell % horses;
            due("parted(" + n + ", " + day + ", " + smith + ", " + horse + ")", x.parted(n, day, smith, horse), shares[cell]);
        }
    }

    private static void partedCutOrUp() {
        promise = "Terms 2, PARTED: of each pair, each SMITH, each HORSE what a m-th of that is, cut or up";
        // a smith's two quarters are one a day, though each pair could have none
        ShoeingDay x = told(smiths(1) + horses(2) + "hours a a 1;hours a b 1;");
        partsAre(x, 2, 0, 0, 1);
        partsAre(x, 2, 1, 1, 0);
        // a horse's, too
        x = told(smiths(2) + horses(1) + "hours a a 1;hours b a 1;");
        partsAre(x, 2, 0, 0, 1);
        partsAre(x, 2, 1, 1, 0);
        // a pair's that can be halved is halved
        x = told(smiths(1) + horses(2) + "hours a a 2;hours a b 4;");
        partsAre(x, 2, 0, 1, 2);
        partsAre(x, 2, 1, 1, 2);
        // up to the next whole number, no further: of 3 and 3 the day has 3, not 2 and 2
        x = told(smiths(1) + horses(2) + "hours a a 3;hours a b 3;");
        partsAre(x, 2, 0, 1, 2);
        partsAre(x, 2, 1, 2, 1);
        // m counts that day, too: of 5 over 3 days a third, then a half of what is left, then the rest
        x = told(smiths(1) + horses(1) + "hours a a 5;");
        partsAre(x, 3, 0, 1);
        partsAre(x, 3, 1, 2);
        partsAre(x, 3, 2, 2);
    }

    private static void partedOfAllTogether() {
        promise = "Terms 2, PARTED: and of all together";
        ShoeingDay x = told(smiths(2) + horses(2) + "hours a a 1;hours b b 1;");
        partsAre(x, 2, 0, 0, 0, 0, 1);
        partsAre(x, 2, 1, 1, 0, 0, 0);
        x = told(smiths(3) + horses(3) + "hours a a 1;hours b b 1;hours c c 1;");
        partsAre(x, 2, 0, 0, 0, 0, 0, 0, 0, 0, 0, 1);
        partsAre(x, 2, 1, 1, 0, 0, 0, 1, 0, 0, 0, 0);
        partsAre(x, 3, 1, 0, 0, 0, 0, 1, 0, 0, 0, 0);
    }

    private static void partedNoPairAboveItsShare() {
        promise = "Terms 2, PARTED: of each pair no more than its share, up to the next whole number";
        // the smith's day has 2 of 4; c has one of its 2, not both, though that would come first
        ShoeingDay x = told(smiths(1) + horses(3) + "hours a a 1;hours a b 1;hours a c 2;");
        partsAre(x, 2, 0, 0, 1, 1);
        partsAre(x, 2, 1, 1, 0, 1);
    }

    private static void partedNoSmithAboveHisShare() {
        promise = "Terms 2, PARTED: of each SMITH no more than his share, up to the next whole number";
        // each horse's day has 1 of 2, the last smith's 1 of 2
        ShoeingDay x = told(smiths(3) + horses(2) + "hours a a 1;hours b b 1;hours c a 1;hours c b 1;");
        partsAre(x, 2, 0, 0, 0, 0, 1, 1, 0);
        partsAre(x, 2, 1, 1, 0, 0, 0, 0, 1);
        // each horse's day has 1 of 2, the last smith's no more than 2 of 3
        x = told(smiths(4) + horses(3) + "hours a a 1;hours b b 1;hours c c 1;hours d a 1;hours d b 1;hours d c 1;");
        partsAre(x, 2, 0, 0, 0, 0, 0, 0, 0, 0, 0, 1, 1, 1, 0);
        partsAre(x, 2, 1, 1, 0, 0, 0, 1, 0, 0, 0, 0, 0, 0, 1);
    }

    private static void partedNoHorseAboveItsShare() {
        promise = "Terms 2, PARTED: of each HORSE no more than its share, up to the next whole number";
        // each smith's day has 1 of 2, the last horse's 1 of 2
        ShoeingDay x = told(smiths(2) + horses(3) + "hours a a 1;hours a c 1;hours b b 1;hours b c 1;");
        partsAre(x, 2, 0, 0, 0, 1, 0, 1, 0);
        partsAre(x, 2, 1, 1, 0, 0, 0, 0, 1);
        // each smith's day has 1 of 2, the last horse's no more than 2 of 3
        x = told(smiths(3) + horses(4) + "hours a a 1;hours a d 1;hours b b 1;hours b d 1;hours c c 1;hours c d 1;");
        partsAre(x, 2, 0, 0, 0, 0, 1, 0, 0, 0, 1, 0, 0, 1, 0);
        partsAre(x, 2, 1, 1, 0, 0, 0, 0, 1, 0, 0, 0, 0, 0, 1);
    }

    private static void partedNoHorseBelowItsShare() {
        promise = "Terms 2, PARTED: of each HORSE no less than its share, cut";
        // the first horse's day has 2 of 6, though smiths and all together could do with less of it
        ShoeingDay x = told(smiths(3) + horses(2) + "hours a a 2;hours a b 2;hours b a 2;hours c a 2;");
        partsAre(x, 3, 0, 0, 1, 1, 0, 1, 0);
        partsAre(x, 3, 1, 1, 0, 0, 0, 1, 0);
        partsAre(x, 3, 2, 1, 1, 1, 0, 0, 0);
    }

    private static void partedNotAboveTheShareOfAll() {
        promise = "Terms 2, PARTED: of all together no more than their share, up to the next whole number";
        // a without a costs two, and so would c without c: but of all 6 the day has 3
        ShoeingDay x = told(smiths(4) + horses(4) + "hours a a 1;hours a b 1;hours b a 1;hours c c 1;hours c d 1;hours d c 1;");
        partsAre(x, 2, 0, 0, 1, 0, 0, 1, 0, 0, 0, 0, 0, 1, 0, 0, 0, 0, 0);
        partsAre(x, 2, 1, 1, 0, 0, 0, 0, 0, 0, 0, 0, 0, 0, 1, 0, 0, 1, 0);
    }

    private static String ofNow(ShoeingDay x) {
        StringBuilder seen = new StringBuilder();
        seen.append(x.about(3)).append(' ').append(x.least()).append(' ').append(x.busy(false)).append(' ').append(x.busy(true));
        seen.append(" rounds ").append(x.rounds());
        for (int i = 0; i < 6; i++) {
            seen.append(' ').append(x.lasts(i)).append(' ').append(x.with(i, 0)).append(' ').append(x.with(i, 1));
        }
        seen.append(" even ").append(x.even()).append(" proof ").append(x.proof()).append(" parted");
        for (int cell = 0; cell < 4; cell++) {
            seen.append(' ').append(x.parted(2, 0, cell / 2, cell % 2)).append(' ').append(x.parted(2, 1, cell / 2, cell % 2));
        }
        return seen.toString();
    }

    /** What was asked before must not be answered again once something else is lacked. */
    private static void isOfNow(String behind, ShoeingDay x, int... lacked) {
        String text = smiths(2) + horses(2) + "hours a a " + lacked[0] + ";hours a b " + lacked[1]
                + ";hours b a " + lacked[2] + ";hours b b " + lacked[3] + ";";
        due("all behind " + behind, ofNow(x), ofNow(told(text)));
    }

    private static void allIsOfNow() {
        promise = "Promises 8 to 16, now: behind whatever changes it";
        ShoeingDay x = told(TWO);
        isOfNow("yard", x, 2, 1, 1, 3);
        x.image(1);
        x.more(0, 0, 6);
        isOfNow("more", x, 8, 1, 1, 3);
        x.breaks(1, 0);
        isOfNow("breaks", x, 9, 4, 0, 0);
        x.undo();
        isOfNow("undo", x, 8, 1, 1, 3);
        x.redo();
        isOfNow("redo", x, 9, 4, 0, 0);
        x.run(2);
        isOfNow("run", x, 7, 4, 0, 0);
        x.back(1);
        isOfNow("back", x, 2, 1, 1, 3);
        put(x, smiths(2) + horses(2) + "hours b a 7;hours b b 4;");
        x.yard();
        isOfNow("another yard", x, 0, 0, 7, 4);
    }

    private static void evenWithoutSmiths() {
        promise = "Promises 15 and 16, 0 without SMITHS; 0, if EVEN is 0";
        due("even without smiths", told(horses(10)).even(), 0);
        due("proof without smiths", told(horses(10)).proof(), 0);
        ShoeingDay x = told(masters(8) + horses(10) + "lends a b;");
        due("even of nothing", x.even(), 0);
        due("proof of nothing", x.proof(), 0);
        x.more(7, 9, 1);
        due("even of one", x.even(), 1);
        due("proof of one", x.proof(), 128);
        x.run(1);
        due("even of nothing again", x.even(), 0);
        due("proof of nothing again", x.proof(), 0);
    }

    private static void evenUpToTheNextWholeNumber() {
        promise = "Terms 2, EVEN and PROOF: parted to them, up to the next whole number";
        String yard = masters(3) + horses(1) + "lends a b;lends a c;hours a a ";
        int[] quarters = {1, 2, 3, 4, 5, 6, 7, 97, 98, 99};
        int[] due = {1, 1, 1, 2, 2, 2, 3, 33, 33, 33};
        for (int i = 0; i < quarters.length; i++) {
            ShoeingDay x = told(yard + quarters[i] + ";");
            due("even of " + quarters[i], x.even(), due[i]);
            due("proof of " + quarters[i], x.proof(), 7);
        }
    }

    private static void evenNotByOthersForThose() {
        promise = "Terms 2, EVEN: by those who may stand for him (not by others for those)";
        ShoeingDay x = told(masters(3) + horses(1) + "hours a a 12;lends a b;lends b c;");
        due("even", x.even(), 6);
        due("proof", x.proof(), 3);
        x = told(masters(3) + horses(1) + "hours a a 12;lends a b;lends b c;lends a c;");
        due("even, if they may", x.even(), 4);
        due("proof, if they may", x.proof(), 7);
    }

    private static void evenOfThoseWhoLendNothing() {
        promise = "Terms 2, EVEN: the greatest SUM of any SMITH, masters or not";
        ShoeingDay x = told(masters(2) + "smith c wage 1;" + horses(1) + "hours a a 10;hours c a 5;lends a b;");
        due("even, both the same", x.even(), 5);
        due("proof, both the same", x.proof(), 3);
        x.more(2, 0, 1);
        due("even, c has one more", x.even(), 6);
        due("proof, c has one more", x.proof(), 4);
        x.more(0, 0, 3);
        due("even, a has three more", x.even(), 7);
        due("proof, a has three more", x.proof(), 3);
    }

    private static void proofLeastAsBits() {
        promise = "Terms 2, PROOF: the least set of SMITHS (as bits)";
        ShoeingDay x = told(masters(3) + horses(3) + "hours a a 4;hours b b 4;hours c c 4;");
        due("three alike", x.proof(), 1);
        x.more(0, 0, -1);
        due("two alike", x.proof(), 2);
        x.more(1, 1, -1);
        due("the last alone", x.proof(), 4);
        // a and b must do 4 each together, c does 4 alone: 3 is less than 4
        x = told(masters(3) + horses(2) + "hours a a 8;hours c b 4;lends a b;");
        due("a set of two with lower bits", x.proof(), 3);
    }

    private static void proofOfAllEight() {
        promise = "Promise 16, PROOF of all eight";
        StringBuilder text = new StringBuilder(masters(8)).append(horses(2));
        for (char name = 'b'; name <= 'h'; name++) {
            text.append("lends a ").append(name).append(';');
        }
        ShoeingDay x = told(text + "hours a a 80;");
        due("even of 80", x.even(), 10);
        due("proof of 80", x.proof(), 255);
        x.more(0, 1, 1);
        due("even of 81", x.even(), 11);
        due("proof of 81", x.proof(), 255);
        x.more(7, 1, 11);
        due("even, the eighth alone has 11, too", x.even(), 12);
        due("proof, the eighth alone has 11, too", x.proof(), 255);
        x.more(7, 1, 2);
        due("even, the eighth alone has 13", x.even(), 13);
        due("proof, the eighth alone has 13", x.proof(), 128);
    }
}
