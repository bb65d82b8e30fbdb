/** Each promise with answers reckoned by hand from the document: ordinary inputs, its edges, wrong inputs. */
public final class PromisesTest extends Kit {
    public static void main(String[] args) {
        feedAndEnd();
        yardStartsAnew();
        yardThatFails();
        faultsOfTokens();
        faultsOfPlace();
        faultsOfNames();
        faultsOfLends();
        faultsOfCount();
        lacksAndSums();
        roundsOfTheDay();
        roundsLookAhead();
        wages();
        parted();
        evenAndProof();
        run();
        more();
        breaks();
        undoAndRedo();
        fortyActs();
        toldRounds();
        judged();
        sightsAndTime();
        fits();
        fitsAsKnown();
        imageAndBack();
        about();
        finish("all promises are kept");
    }

    private static void feedAndEnd() {
        promise = "promises 2 and 3";
        ShoeingDay x = new ShoeingDay();
        for (int i = 1; i <= 85; i++) {
            due("feed", x.feed(i, -1, 0, Integer.MIN_VALUE, Integer.MAX_VALUE), 20 * i);
        }
        due("feed beyond 1700", x.feed(1, 2, 3, 4, 5), NONE);
        due("bytes", x.about(9), 1700);
        due("end(1701)", x.end(1701), NONE);
        due("end(-1)", x.end(-1), NONE);
        due("bytes", x.about(9), 1700);
        due("end(1700)", x.end(1700), 1700);
        due("end(1681)", x.end(1681), 1681);
        due("feed beyond 1700", x.feed(1, 2, 3, 4, 5), NONE);
        due("end(1680)", x.end(1680), 1680);
        due("end(1681)", x.end(1681), NONE);
        due("feed", x.feed(1, 2, 3, 4, 5), 1700);
        due("end(0)", x.end(0), 0);
        due("bytes", x.about(9), 0);
        // "late 123;" with the highest byte of each number first
        due("feed", x.feed(0x6c617465, 0x20313233, 0x3b202020, 0x20202020, 0x20202020), 20);
        due("yard", x.yard(), 0);
        due("late", x.about(10), 123);
    }

    private static void yardStartsAnew() {
        promise = "promise 4";
        ShoeingDay x = told(TWO);
        due("smiths", x.about(0), 2);
        due("bytes", x.about(9), 0);
        due("run", x.run(1), 1);
        due("undo", x.undo(), true);
        due("run", x.run(2), 2);
        due("more", x.more(0, 0, 1), 1);
        due("undo", x.undo(), true);
        due("round", x.round(1), 0);
        due("later", x.later(7), 7);
        due("sight", x.sight(0, 0, 0), 0);
        due("image", x.image(0), 2);
        put(x, TWO);
        due("yard", x.yard(), 2);
        due("quarter", x.about(2), 0);
        due("lacked", x.about(3), 7);
        for (int what = 4; what <= 7; what++) {
            due("about(" + what + ")", x.about(what), 0);
        }
        due("time", x.about(8), 7);
        due("back", x.back(0), NONE);
        due("pair", x.pair(0, 0), NONE);
        due("untell", x.untell(0), false);
        due("yard of nothing", x.yard(), 0);
        due("horses", x.about(1), 0);
        due("late", x.about(10), NONE);
        good("", 0);
        good(" \n \n", 0);
    }

    private static void yardThatFails() {
        promise = "promise 4, with a fault";
        ShoeingDay x = told(TWO);
        x.run(2);
        x.round(1);
        x.sight(0, 0, 0);
        x.image(0);
        put(x, "smith a wage 1;horse x;oops");
        due("yard", x.yard(), NONE);
        due("bytes", x.about(9), 27);
        due("smiths", x.about(0), 2);
        due("quarter", x.about(2), 2);
        due("lacked", x.about(3), 3);
        due("acts", x.about(4), 1);
        due("rounds told", x.about(6), 1);
        due("sights", x.about(7), 1);
        due("late", x.about(10), 3);
        due("back", x.back(0), 2);
        due("fault(0)", x.fault(0), 2);
        due("fault(1)", x.fault(1), 23);
        due("fault(2)", x.fault(2), NONE);
        due("fault(-1)", x.fault(-1), NONE);
        due("end", x.end(23), 23);
        due("yard of the rest", x.yard(), 1);
        due("fault(0)", x.fault(0), 0);
        due("fault(1)", x.fault(1), NONE);
    }

    private static void faultsOfTokens() {
        promise = "promise 5, tokens";
        good("smith abcdefgh wage 1;", 1);
        good("smith\na\nmaster\nwage99;horse\na;hours a a0099;late9999;", 1);
        faulty("smith abcdefghi wage 1;", 1, 6);
        faulty("late 12345;", 1, 5);
        faulty("late 5x;", 1, 5);
        faulty("smith a wage 100x;", 1, 13);
        faulty("late -5;", 1, 5);
        faulty("late 5;\t", 1, 7);
        faulty("Smith a wage 1;", 1, 0);
        faulty("horse x;" + (char) 233, 1, 8);
        faulty("horse x;" + (char) 0, 1, 8);
        faulty("smith a wage 1", 1, 14);
        faulty("smith a wage 1  ", 1, 16);
        faulty("horse", 1, 5);
        faulty("horse x;hours ", 1, 14);
    }

    private static void faultsOfPlace() {
        promise = "promise 5, what can't stand there";
        faulty("wage 5;", 2, 0);
        faulty("  ;", 2, 2);
        faulty("5", 2, 0);
        faulty("horses x;", 2, 0);
        faulty("horsex;", 2, 0);
        faulty("smith a 5;", 2, 8);
        faulty("smith a master 5;", 2, 15);
        faulty("smith a master master wage 5;", 2, 15);
        faulty("smith a wage ;", 2, 13);
        faulty("smith a wage 5 6;", 2, 15);
        faulty("horse 5;", 2, 6);
        for (String word : "smith master wage horse hours lends late".split(" ")) {
            faulty("horse " + word + ";", 2, 6);
            faulty("smith " + word + " wage 1;", 2, 6);
        }
        faulty("horse x y;", 2, 8);
        faulty("late x;", 2, 5);
    }

    private static void faultsOfNames() {
        promise = "promise 5, names and numbers";
        good("smith a wage 1;horse a;smith b wage 1;horse b;", 2);
        faulty("smith a wage 1;smith a wage 2;", 3, 21);
        faulty("horse x;horse x;", 3, 14);
        faulty("smith a wage 100;", 4, 13);
        String yard = "smith a wage 1;horse x;";
        good(yard + "hours a x 99;", 1);
        faulty(yard + "hours a x 100;", 4, 33);
        faulty(yard + "hours b x 1;", 5, 29);
        faulty(yard + "hours x x 1;", 5, 29);
        faulty(yard + "hours a y 1;", 5, 31);
        faulty(yard + "hours a a 1;", 5, 31);
        faulty(yard + "hours a x 0;hours a x 1;", 3, 43);
        faulty("horse x;hours a x 1;smith a wage 1;", 5, 14);
        faulty("smith a wage 1;hours a x 1;horse x;", 5, 23);
    }

    private static void faultsOfLends() {
        promise = "promise 5, lends";
        String yard = "smith a master wage 1;smith b master wage 1;smith c wage 1;";
        good(yard + "lends a b;lends b a;", 3);
        faulty(yard + "lends a a;", 3, 67);
        faulty(yard + "lends a b;lends a b;", 3, 77);
        faulty(yard + "lends c a;", 6, 65);
        faulty(yard + "lends c c;", 6, 65);
        faulty(yard + "lends a c;", 6, 67);
        faulty(yard + "lends d a;", 5, 65);
        faulty(yard + "lends a d;", 5, 67);
        ShoeingDay x = told(yard + "lends a b;");
        put(x, "smith a wage 1;smith b master wage 1;lends a b;");
        due("yard where a is no master any more", x.yard(), NONE);
        due("fault(0)", x.fault(0), 6);
        due("fault(1)", x.fault(1), 43);
        put(x, yard + "horse x;hours a x 4;");
        due("yard where nobody lends any more", x.yard(), 3);
        due("even", x.even(), 4);
    }

    private static void faultsOfCount() {
        promise = "promise 5, too many";
        StringBuilder smiths = new StringBuilder();
        StringBuilder horses = new StringBuilder();
        for (char name = 'a'; name < 'a' + 10; name++) {
            horses.append("horse ").append(name).append(';');
            if (name < 'a' + 8) {
                smiths.append("smith ").append(name).append(" master wage 1;");
            }
        }
        good(smiths.toString() + horses, 8);
        faulty(smiths + "smith a wage 1;", 2, smiths.length());
        faulty(smiths + "smith", 2, smiths.length());
        faulty(horses + " horse x;", 2, horses.length() + 1);
        faulty("late 1;late 2;", 2, 7);
        StringBuilder text = new StringBuilder().append(smiths).append(horses);
        for (int i = 0; i < 60; i++) {
            text.append("hours ").append((char) ('a' + i / 10)).append(' ').append((char) ('a' + i % 10)).append(" 0;");
        }
        good(text.toString(), 8);
        faulty(text + "hours h h 1;", 2, text.length());
        text = new StringBuilder().append(smiths);
        for (int i = 0; i < 16; i++) {
            text.append("lends ").append((char) ('a' + i / 4)).append(' ').append((char) ('e' + i % 4)).append(';');
        }
        text.append("lends e a;lends f a;lends g a;lends h a;");
        good(text.toString(), 8);
        faulty(text + "lends h b;", 2, text.length());
        good(text + "late 0;", 8);
    }

    private static void lacksAndSums() {
        promise = "promises 6 to 9";
        ShoeingDay x = told(TWO);
        due("lacks(0, 0)", x.lacks(0, 0), 2);
        due("lacks(1, 0)", x.lacks(1, 0), 1);
        due("lacks(0, 1)", x.lacks(0, 1), 1);
        int[] not = {-1, 2, 8, Integer.MIN_VALUE, Integer.MAX_VALUE};
        for (int no : not) {
            due("lacks(" + no + ", 0)", x.lacks(no, 0), NONE);
            due("lacks(0, " + no + ")", x.lacks(0, no), NONE);
            due("sum(" + no + ", false)", x.sum(no, false), NONE);
            due("sum(" + no + ", true)", x.sum(no, true), NONE);
        }
        due("sum(0, false)", x.sum(0, false), 3);
        due("sum(1, false)", x.sum(1, false), 4);
        due("sum(0, true)", x.sum(0, true), 3);
        due("sum(1, true)", x.sum(1, true), 4);
        due("least", x.least(), 4);
        due("busy(false)", x.busy(false), 2);
        due("busy(true)", x.busy(true), 2);
        x.more(0, 0, 1);
        due("busy(false)", x.busy(false), 3);
        due("busy(true)", x.busy(true), 3);
        x.run(99);
        due("least", x.least(), 0);
        due("busy(false)", x.busy(false), 3);
        due("busy(true)", x.busy(true), 3);
    }

    private static void roundsOfTheDay() {
        promise = "promises 10 to 12";
        ShoeingDay x = told("smith a wage 1;smith b wage 1;horse x;horse y;hours a x 1;hours a y 1;hours b x 2;");
        due("rounds", x.rounds(), 3);
        roundIs(x, 0, 1, 0, NONE);
        roundIs(x, 1, 1, 1, 0);
        roundIs(x, 2, 1, NONE, 0);
        due("lasts(3)", x.lasts(3), NONE);
        due("lasts(-1)", x.lasts(-1), NONE);
        due("with(3, 0)", x.with(3, 0), NONE);
        due("with(-1, 0)", x.with(-1, 0), NONE);
        due("with(0, 2)", x.with(0, 2), NONE);
        due("with(0, -1)", x.with(0, -1), NONE);
        x.run(1);
        due("rounds", x.rounds(), 2);
        roundIs(x, 0, 1, 1, 0);
        x.run(9);
        due("rounds", x.rounds(), 0);
        due("lasts(0)", x.lasts(0), NONE);
    }

    /** c is busy, so that a and b together can't have both of its horses. */
    private static void roundsLookAhead() {
        promise = "promises 10 to 12, looking ahead";
        ShoeingDay x = told("smith a wage 1;smith b wage 1;smith c wage 1;horse x;horse y;"
                + "hours a x 1;hours b y 1;hours c x 2;hours c y 2;");
        due("rounds", x.rounds(), 4);
        roundIs(x, 0, 1, 0, NONE, 1);
        roundIs(x, 1, 1, NONE, 1, 0);
        roundIs(x, 2, 1, NONE, NONE, 0);
        roundIs(x, 3, 1, NONE, NONE, 1);
    }

    private static void wages() {
        promise = "promise 13";
        String yard = "smith a wage 2;smith b wage 3;horse x;horse y;hours a x 4;hours b y 6;";
        due("never late", told(yard).wages(), 2 * 4 + 3 * 6);
        due("late 0", told(yard + "late 0;").wages(), 2 * (2 * 4 + 3 * 6));
        due("late 5", told(yard + "late 5;").wages(), 2 * 4 + 3 * 7);
        due("late 6", told(yard + "late 6;").wages(), 2 * 4 + 3 * 6);
        ShoeingDay x = told(yard + "late 3;");
        due("late 3", x.wages(), 2 * 5 + 3 * 9);
        x.run(2);
        due("late 3, from 2 on", x.wages(), 2 * 3 + 3 * 7);
        x.run(2);
        due("late 3, from 4 on", x.wages(), 3 * 4);
        x.more(0, 0, 1);
        due("late 3, one more", x.wages(), 3 * 4 + 2 * 2);
        x.run(50);
        due("nothing left", x.wages(), 0);
    }

    private static void parted() {
        promise = "promise 14";
        ShoeingDay x = told(TWO);
        int[][] first = {{1, 0}, {0, 2}};
        int[][] second = {{1, 1}, {1, 1}};
        for (int smith = 0; smith < 2; smith++) {
            for (int horse = 0; horse < 2; horse++) {
                due("parted(2, 0, ..)", x.parted(2, 0, smith, horse), first[smith][horse]);
                due("parted(2, 1, ..)", x.parted(2, 1, smith, horse), second[smith][horse]);
                due("parted(1, 0, ..)", x.parted(1, 0, smith, horse), x.lacks(smith, horse));
            }
        }
        int sum = 0;
        for (int day = 0; day < 9; day++) {
            sum += x.parted(9, day, 1, 1);
        }
        due("nine days together", sum, 3);
        due("parted(0, ..)", x.parted(0, 0, 0, 0), NONE);
        due("parted(10, ..)", x.parted(10, 0, 0, 0), NONE);
        due("parted(2, -1, ..)", x.parted(2, -1, 0, 0), NONE);
        due("parted(2, 2, ..)", x.parted(2, 2, 0, 0), NONE);
        due("parted(2, 0, 2, 0)", x.parted(2, 0, 2, 0), NONE);
        due("parted(2, 0, 0, 2)", x.parted(2, 0, 0, 2), NONE);
        due("parted(2, 0, -1, 0)", x.parted(2, 0, -1, 0), NONE);
        due("parted(2, 0, 0, -1)", x.parted(2, 0, 0, -1), NONE);
        x.more(1, 1, 1);
        due("parted of what is lacked now", x.parted(1, 0, 1, 1), 4);
        // one quarter each: the day has one of the row of three, the last, but rows and all must be 1 of 3
        ShoeingDay y = told("smith a wage 1;horse x;horse y;horse z;hours a x 1;hours a y 1;hours a z 1;");
        for (int day = 0; day < 3; day++) {
            for (int horse = 0; horse < 3; horse++) {
                due("parted(3, " + day + ", 0, " + horse + ")", y.parted(3, day, 0, horse), day + horse == 2 ? 1 : 0);
            }
        }
    }

    private static void evenAndProof() {
        promise = "promises 15 and 16";
        String smiths = "smith a master wage 1;smith b master wage 1;smith c master wage 1;smith d wage 1;horse x;";
        ShoeingDay x = told(smiths + "hours a x 9;");
        due("even without lends", x.even(), 9);
        due("proof without lends", x.proof(), 1);
        x = told(smiths + "hours a x 9;lends a b;lends b c;");
        due("even, not by others for those", x.even(), 5);
        due("proof, not by others for those", x.proof(), 3);
        x = told(smiths + "hours a x 9;lends b a;");
        due("even, the other way about", x.even(), 9);
        x = told(smiths + "hours a x 9;hours b x 6;lends a b;lends b c;");
        due("even of a chain", x.even(), 5);
        due("proof of a chain", x.proof(), 3);
        x = told(smiths + "hours a x 4;hours c x 2;lends a b;");
        due("even of two proofs", x.even(), 2);
        due("the least proof, as bits", x.proof(), 3);
        x = told(smiths + "hours a x 4;hours d x 7;lends a b;lends a c;");
        due("even, with one who lends none", x.even(), 7);
        due("proof, with one who lends none", x.proof(), 8);
        x.run(999);
        due("even of nothing", x.even(), 0);
        due("proof of nothing", x.proof(), 0);
        due("even without smiths", new ShoeingDay().even(), 0);
        due("proof without smiths", new ShoeingDay().proof(), 0);
    }

    private static void run() {
        promise = "promise 17";
        ShoeingDay x = told(TWO);
        due("run(0)", x.run(0), NONE);
        due("run(1000)", x.run(1000), NONE);
        due("run(-1)", x.run(-1), NONE);
        due("acts", x.about(4), 0);
        due("run(1)", x.run(1), 1);
        due("lacks(0, 0)", x.lacks(0, 0), 1);
        due("lacks(1, 1)", x.lacks(1, 1), 2);
        due("run(999)", x.run(999), 3);
        due("quarter", x.about(2), 4);
        due("run(1)", x.run(1), 0);
        due("quarter", x.about(2), 4);
        due("acts", x.about(4), 3);
    }

    private static void more() {
        promise = "promise 18";
        ShoeingDay x = told(TWO);
        due("more", x.more(0, 0, 97), 99);
        due("more", x.more(0, 0, 1), NONE);
        due("less", x.more(0, 0, -99), 0);
        due("less", x.more(0, 0, -1), NONE);
        due("more", x.more(0, 0, 0), 0);
        due("acts", x.about(4), 3);
        due("more by 100", x.more(0, 0, 100), NONE);
        due("less by 100", x.more(0, 0, -100), NONE);
        due("more by far", x.more(0, 0, Integer.MAX_VALUE), NONE);
        due("less by far", x.more(0, 0, Integer.MIN_VALUE), NONE);
        due("no smith", x.more(2, 0, 1), NONE);
        due("no horse", x.more(0, -1, 1), NONE);
        due("acts", x.about(4), 3);
        due("more", x.more(0, 0, 99), 99);
        due("lacks", x.lacks(0, 0), 99);
    }

    private static void breaks() {
        promise = "promise 19";
        ShoeingDay x = told(TWO);
        due("both are one", x.breaks(0, 0), NONE);
        due("no smith", x.breaks(2, 0), NONE);
        due("no other", x.breaks(0, -1), NONE);
        due("breaks(0, 1)", x.breaks(0, 1), 3);
        due("lacks(1, 0)", x.lacks(1, 0), 3);
        due("lacks(1, 1)", x.lacks(1, 1), 4);
        due("sum(0)", x.sum(0, false), 0);
        due("breaks(0, 1) of nothing", x.breaks(0, 1), 0);
        due("acts", x.about(4), 2);
        x.more(0, 1, 95);
        due("99 together", x.breaks(0, 1), 95);
        x.more(0, 1, 1);
        due("100 together", x.breaks(0, 1), NONE);
        due("lacks(0, 1)", x.lacks(0, 1), 1);
        due("lacks(1, 0)", x.lacks(1, 0), 3);
    }

    private static void undoAndRedo() {
        promise = "promises 20 and 21";
        ShoeingDay x = told(TWO);
        due("undo of nothing", x.undo(), false);
        due("redo of nothing", x.redo(), false);
        x.run(2);
        x.more(1, 0, 9);
        x.breaks(0, 1);
        due("lacks(1, 1)", x.lacks(1, 1), 2);
        due("undo breaks", x.undo(), true);
        due("lacks(0, 1)", x.lacks(0, 1), 1);
        due("undo more", x.undo(), true);
        due("lacks(1, 0)", x.lacks(1, 0), 1);
        due("undo run", x.undo(), true);
        due("quarter", x.about(2), 0);
        due("lacked", x.about(3), 7);
        due("undo of nothing", x.undo(), false);
        due("redone can be", x.about(5), 3);
        due("redo run", x.redo(), true);
        due("quarter", x.about(2), 2);
        due("rounds", x.rounds(), 2);
        due("redo more", x.redo(), true);
        due("lacks(1, 0)", x.lacks(1, 0), 10);
        due("undone can be", x.about(4), 2);
        due("redone can be", x.about(5), 1);
        due("no act", x.more(0, 0, 100), NONE);
        due("redone can be", x.about(5), 1);
        due("an act", x.more(0, 0, 1), 1);
        due("redone can be", x.about(5), 0);
        due("redo", x.redo(), false);
        due("undone can be", x.about(4), 3);
    }

    private static void fortyActs() {
        promise = "promises 20 and 21, forty";
        ShoeingDay x = told("smith a wage 1;horse x;");
        for (int i = 1; i <= 45; i++) {
            due("more", x.more(0, 0, 1), i);
            due("acts", x.about(4), Math.min(i, 40));
        }
        for (int i = 44; i >= 5; i--) {
            due("undo", x.undo(), true);
            due("lacks", x.lacks(0, 0), i);
        }
        due("undo", x.undo(), false);
        due("lacks", x.lacks(0, 0), 5);
        due("redone can be", x.about(5), 40);
        for (int i = 6; i <= 45; i++) {
            due("redo", x.redo(), true);
            due("lacks", x.lacks(0, 0), i);
        }
        due("redo", x.redo(), false);
    }

    private static void toldRounds() {
        promise = "promises 22 to 24";
        ShoeingDay x = told(TWO);
        due("pair without a round", x.pair(0, 0), NONE);
        due("hush", x.hush(), 0);
        due("round(0)", x.round(0), NONE);
        due("round(100)", x.round(100), NONE);
        due("round(-1)", x.round(-1), NONE);
        for (int i = 0; i < 12; i++) {
            due("round", x.round(i == 0 ? 99 : i), i);
        }
        due("a thirteenth", x.round(1), NONE);
        due("told", x.about(6), 12);
        for (int i = 1; i <= 10; i++) {
            due("pair", x.pair(i % 2, 0), i);
        }
        due("an eleventh", x.pair(0, 0), NONE);
        due("hush", x.hush(), 12);
        due("told", x.about(6), 0);
        due("pair", x.pair(0, 0), NONE);
        due("round", x.round(1), 0);
        due("pair of no smith", x.pair(2, 0), NONE);
        due("pair of no horse", x.pair(0, 2), NONE);
        due("pair of none", x.pair(-1, -1), NONE);
        due("pair", x.pair(0, 0), 1);
    }

    private static void judged() {
        promise = "promise 25";
        ShoeingDay x = told(TWO);
        judgedAs(x, NONE, 7, 0);
        due("judge(3)", x.judge(3), NONE);
        due("judge(-1)", x.judge(-1), NONE);
        x.round(2);
        judgedAs(x, NONE, 7, 2);
        x.pair(0, 0);
        x.pair(1, 1);
        judgedAs(x, NONE, 3, 4 - 2);
        x.round(1);
        x.pair(1, 0);
        x.pair(0, 1);
        judgedAs(x, NONE, 1, 3);
        x.round(1);
        x.pair(1, 1);
        judgedAs(x, NONE, 0, 4);
        x.round(1);
        x.pair(1, 1);
        judgedAs(x, 3, 0, 4);
        x.run(1);
        judgedAs(x, 0, 5, 0);
        x.undo();
        x.hush();
        x.round(1);
        x.pair(0, 0);
        x.pair(0, 1);
        judgedAs(x, 0, 7, 0);
        x.hush();
        x.round(1);
        x.pair(0, 0);
        x.round(1);
        x.pair(0, 1);
        x.pair(1, 1);
        x.round(1);
        x.pair(1, 0);
        judgedAs(x, 1, 6, 1);
        x.hush();
        x.round(1);
        x.pair(1, 1);
        x.pair(1, 1);
        judgedAs(x, 0, 7, 0);
    }

    private static void sightsAndTime() {
        promise = "promises 26 to 28";
        ShoeingDay x = told(TWO);
        due("sight(-1, ..)", x.sight(-1, 0, 0), NONE);
        due("sight(1000, ..)", x.sight(1000, 0, 0), NONE);
        due("no smith", x.sight(0, 2, 0), NONE);
        due("no smith", x.sight(0, -1, 0), NONE);
        due("no horse", x.sight(0, 0, 2), NONE);
        due("no horse", x.sight(0, 0, -2), NONE);
        for (int i = 0; i < 20; i++) {
            due("sight", x.sight(i == 0 ? 999 : i, i % 2, i % 3 - 1), i);
        }
        due("a twenty-first", x.sight(0, 0, 0), NONE);
        due("untell(20)", x.untell(20), false);
        due("untell(-1)", x.untell(-1), false);
        due("untell(19)", x.untell(19), true);
        due("untell(19)", x.untell(19), false);
        due("sights", x.about(7), 20);
        due("none in its place", x.sight(0, 0, 0), NONE);
        due("later(-1)", x.later(-1), NONE);
        due("later(1001)", x.later(1001), NONE);
        due("later(0)", x.later(0), 0);
        for (int i = 1; i <= 99; i++) {
            due("later(1000)", x.later(1000), 1000 * i);
        }
        due("later(999)", x.later(999), 99999);
        due("later(2)", x.later(2), NONE);
        due("later(1)", x.later(1), 100000);
        due("later(1)", x.later(1), NONE);
        due("later(0)", x.later(0), 100000);
        due("time", x.about(8), 100000);
    }

    private static void fits() {
        promise = "promise 29";
        ShoeingDay x = told("smith a wage 1;smith b wage 1;horse x;horse y;hours a x 5;hours b x 3;");
        due("no sight", x.fits(0, 0, 0), ALL_HOURS);
        due("no smith", x.fits(2, 0, 0), NONE);
        due("no horse", x.fits(0, 2, 0), NONE);
        due("no pair", x.fits(-1, -1, 0), NONE);
        // a first has x as long as he lacks it, and then b has it for 3
        x.sight(3, 0, 0);
        due("4 or more", x.fits(0, 0, 0), ALL_HOURS & ~15);
        x.sight(7, 0, NONE);
        due("4 to 7", x.fits(0, 0, 0), 16 + 32 + 64 + 128);
        x.sight(8, 1, 0);
        due("6 or 7", x.fits(0, 0, 0), 64 + 128);
        x.sight(999, 1, NONE);
        due("6 or 7", x.fits(0, 0, 0), 64 + 128);
        due("other pairs as told", x.fits(0, 1, 0), 0);
        x.run(5);
        x.more(1, 0, 9);
        due("all others as told at first", x.fits(0, 0, 0), 64 + 128);
        x.sight(900, 1, 0);
        due("behind the end", x.fits(0, 0, 0), 0);
    }

    private static void fitsAsKnown() {
        promise = "promise 29, as known";
        ShoeingDay x = told("smith a wage 1;horse x;hours a x 50;");
        x.later(5);
        x.sight(3, 0, 0);
        x.later(5);
        x.sight(7, 0, NONE);
        x.later(5);
        due("untell", x.untell(0), true);
        x.later(5);
        due("at 4", x.fits(0, 0, 4), ALL_HOURS);
        due("at 5", x.fits(0, 0, 5), ALL_HOURS & ~15);
        due("at 9", x.fits(0, 0, 9), ALL_HOURS & ~15);
        due("at 10", x.fits(0, 0, 10), 16 + 32 + 64 + 128);
        due("at 14", x.fits(0, 0, 14), 16 + 32 + 64 + 128);
        due("at 15", x.fits(0, 0, 15), 255);
        due("at 100", x.fits(0, 0, 100), 255);
        due("before all", x.fits(0, 0, -1), ALL_HOURS);
        x.sight(2, 0, 0);
        due("told now", x.fits(0, 0, 20), 8 + 16 + 32 + 64 + 128);
        x.untell(2);
        due("told and untold at one time", x.fits(0, 0, 20), 255);
    }

    private static void imageAndBack() {
        promise = "promises 30 and 31";
        ShoeingDay x = told(TWO);
        due("image(-1)", x.image(-1), NONE);
        due("image(3)", x.image(3), NONE);
        due("back(0)", x.back(0), NONE);
        due("back(-1)", x.back(-1), NONE);
        due("back(3)", x.back(3), NONE);
        due("image(0)", x.image(0), 0);
        x.run(3);
        due("image(2)", x.image(2), 3);
        x.more(0, 0, 5);
        x.undo();
        x.round(1);
        x.sight(0, 0, 0);
        due("back(1)", x.back(1), NONE);
        due("acts", x.about(4), 1);
        due("back(0)", x.back(0), 0);
        due("quarter", x.about(2), 0);
        due("lacked", x.about(3), 7);
        due("acts", x.about(4), 0);
        due("undone", x.about(5), 0);
        due("rounds told", x.about(6), 1);
        due("sights", x.about(7), 1);
        due("undo", x.undo(), false);
        due("run", x.run(1), 1);
        due("undo", x.undo(), true);
        due("lacked", x.about(3), 7);
        due("back(2)", x.back(2), 3);
        due("lacked", x.about(3), 1);
        due("redo", x.redo(), false);
        due("image(0)", x.image(0), 3);
        x.more(0, 0, 1);
        due("back(0)", x.back(0), 3);
        due("lacked", x.about(3), 1);
    }

    private static void about() {
        promise = "promise 32";
        ShoeingDay x = told(TWO + "horse z;");
        x.run(1);
        x.run(1);
        x.run(1);
        x.undo();
        x.round(1);
        x.sight(0, 0, 0);
        x.sight(0, 0, 0);
        x.later(9);
        x.feed(0, 0, 0, 0, 0);
        int[] answers = {2, 3, 2, 3, 2, 1, 1, 2, 9, 20, 3};
        for (int what = 0; what < answers.length; what++) {
            due("about(" + what + ")", x.about(what), answers[what]);
        }
        due("about(11)", x.about(11), NONE);
        due("about(-1)", x.about(-1), NONE);
    }
}
