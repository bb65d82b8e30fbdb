/** The boundary cases of a yard's text (terms, ==== 1) and of promises 1 to 5: a test of its own for each sentence. */
public final class TextBoundsTest extends Kit {
    private static final String[] OWN_WORDS = {"smith", "master", "wage", "horse", "hours", "lends", "late"};
    private static final String A_YARD = "smith a master wage 1;smith b master wage 1;smith c wage 1;horse x;horse y;";

    public static void main(String[] args) {
        textOfAtMost1700Bytes();
        yardOfNoLine();
        everyByteAsAToken();
        everyByteBehindANumber();
        wordsOfEight();
        namesThatDifferInOneLetter();
        numbersOfOneToFourDigits();
        blanksPartThemOrNot();
        asLongAsCanBe();
        noLetterDirectlyBehindANumber();
        ownWordsAreNoNames();
        eightSmiths();
        tenHorses();
        wagesUpTo99();
        quartersUpTo99();
        sixtyHoursLines();
        hoursToldAhead();
        eachPairOnce();
        twentyLendsLines();
        lendsOfUnlikeMastersToldAhead();
        eachTwoOnceThisWayAbout();
        lateOnce();
        firstFaultByItsPlace();
        faultAtTheEnd();
        leastFaultAtOnePlace();
        everyTokenInEveryPlace();
        tooManyAtTheLinesFirstWord();
        newObject();
        feedHighestFirst();
        feedUpTo1700();
        endOnEitherSide();
        yardOfAnEmptyTape();
        yardBeginsAnew();
        yardKeepsNothingOfTextsBefore();
        yardWithAFault();
        faultOfTheLatestYard();
        theLastOf512Calls();
        finish("the boundaries of texts hold");
    }

    private static String blanks(int count) {
        return " ".repeat(count);
    }

    private static void textOfAtMost1700Bytes() {
        promise = "Terms 1, a text of at most 1,700 bytes";
        String line = "smith a wage 1;";
        good(blanks(1700 - line.length()) + line, 1);
        good(line + blanks(1700 - line.length()), 1);
        faulty(blanks(1699) + "?", 1, 1699);
        faulty(blanks(1695) + "horse", 1, 1700);
        faulty("smith " + "a".repeat(1694), 1, 6);
        faulty("late " + "1".repeat(1695), 1, 5);
        faulty(";".repeat(1700), 2, 0);
    }

    private static void yardOfNoLine() {
        promise = "Terms 1, yard = {line}";
        good("", 0);
        good(" ", 0);
        good("\n", 0);
        good(blanks(1700), 0);
        faulty(";", 2, 0);
        faulty("horse x;;", 2, 8);
    }

    /** At a line's beginning a blank is nothing, a word, a number and the sign can't stand, all else is no token. */
    private static void everyByteAsAToken() {
        promise = "Terms 1, tokens: words (a .. z), N (digits), the sign ;, blanks (32, 10)";
        for (char sign = 0; sign < 256; sign++) {
            boolean letter = sign >= 'a' && sign <= 'z';
            boolean digit = sign >= '0' && sign <= '9';
            String ahead = "horse x;";
            if (sign == 32 || sign == 10) {
                good(ahead + sign, 0);
                good("horse" + sign + "x" + sign + ";", 0);
            } else if (letter || digit || sign == ';') {
                faultyBehind(ahead, sign + "", 2);
            } else {
                faultyBehind(ahead, sign + "", 1);
                faultyBehind("horse x", sign + ";", 1);
            }
        }
    }

    private static void everyByteBehindANumber() {
        promise = "Terms 1, tokens: no letter (a .. z) directly behind an N";
        for (char sign = 0; sign < 256; sign++) {
            String text = "late 5" + sign;
            if (sign >= 'a' && sign <= 'z') {
                faulty(text, 1, 5);
            } else if (sign == ';') {
                good(text, 0);
            } else if (sign >= '0' && sign <= '9' || sign == 32 || sign == 10) {
                faulty(text, 1, 7);
            } else {
                faulty(text, 1, 6);
            }
        }
    }

    private static void wordsOfEight() {
        promise = "Terms 1, words (8 at most)";
        String name = "abcdefgh";
        good("smith a wage 1;horse a;", 1);
        good("smith " + name + " master wage 1;smith b master wage 1;horse " + name + ";hours " + name + " " + name
                + " 1;lends " + name + " b;lends b " + name + ";", 2);
        String longer = name + "i";
        faultyBehind("smith ", longer + " wage 1;", 1);
        faultyBehind("horse ", longer + ";", 1);
        faultyBehind(A_YARD + "hours ", longer + " x 1;", 1);
        faultyBehind(A_YARD + "hours a ", longer + " 1;", 1);
        faultyBehind(A_YARD + "lends ", longer + " a;", 1);
        faultyBehind(A_YARD + "lends a ", longer + ";", 1);
        faultyBehind("horse x;", longer + ";", 1);
        faultyBehind("smith a ", longer + " wage 1;", 1);
        for (String word : OWN_WORDS) {
            faultyBehind("", "a".repeat(9 - word.length()) + word + " x;", 1);
            faultyBehind("", "a".repeat(21 - word.length()) + word + " x;", 1);
        }
    }

    private static void namesThatDifferInOneLetter() {
        promise = "Terms 1, NAMES are unlike if they differ in their first or their last letter";
        good("smith abcdefgh wage 1;smith bbcdefgh wage 1;smith abcdefgi wage 1;smith abcdefg wage 1;smith bcdefgh wage 1;", 5);
        good("horse a;horse aa;horse aaaaaaaa;horse aaaaaaa;", 0);
        good("horse z;horse zz;horse zzzzzzzz;horse zzzzzzz;horse zzzzzzzy;", 0);
        good("horse p;horse ap;horse q;horse aq;horse bp;horse bq;horse pa;horse qa;", 0);
        faultyBehind("smith abcdefgh wage 1;smith abcdefgi wage 1;smith ", "abcdefgi wage 1;", 3);
    }

    private static void numbersOfOneToFourDigits() {
        promise = "Terms 1, N (1 to 4 digits)";
        String[] numbers = {"0", "00", "000", "0000", "7", "07", "007", "0007", "10", "99", "999", "9999"};
        for (String number : numbers) {
            due("late " + number, told("late " + number + ";").about(10), Integer.parseInt(number));
        }
        good("smith a wage 0099;horse x;hours a x 0099;", 1);
        faultyBehind("late ", "00000;", 1);
        faultyBehind("late ", "00007;", 1);
        faultyBehind("late ", "10000;", 1);
        faultyBehind("smith a wage ", "00001;", 1);
        faultyBehind(A_YARD + "hours a x ", "00001;", 1);
        faultyBehind("late ", "4294967297;", 1);
        faultyBehind("late ", "18446744073709551617;", 1);
        faultyBehind("late ", ";", 2);
    }

    private static void blanksPartThemOrNot() {
        promise = "Terms 1, blanks (32, 10) part them or not";
        String close = "smith a master wage2;smith b master wage3;horse x;hours a x4;hours b x5;lends a b;late6;";
        String wide = close.replace(";", " \n ; \n").replace(" ", "\n \n").replaceAll("([0-9])", "  $1");
        for (String text : new String[] {close, wide, " \n" + close, "\n\n" + wide}) {
            ShoeingDay x = told(text);
            due("smiths", x.about(0), 2);
            due("lacks(0, 0)", x.lacks(0, 0), 4);
            due("lacks(1, 0)", x.lacks(1, 0), 5);
            due("late", x.about(10), 6);
            due("wages", x.wages(), 2 * 4 + 3 * 5 + 3 * 3);
        }
    }

    private static void asLongAsCanBe() {
        promise = "Terms 1, each is as long as can be";
        faultyBehind("", "smitha wage 1;", 2);
        faultyBehind("", "latelate 5;", 2);
        faultyBehind("smith a ", "wagewage 1;", 2);
        faultyBehind("smith a master ", "wages 1;", 2);
        faultyBehind("late 1 ", "2;", 2);
        due("one number of two digits", told("late 12;").about(10), 12);
        due("one name", told("horse xhorse;").about(1), 1);
        faultyBehind("smith amaster wage 1;smith b master wage 1;lends ", "amaster b;", 6);
        faultyBehind("smith a", "1 wage 1;", 2);
    }

    private static void noLetterDirectlyBehindANumber() {
        promise = "Terms 1, no letter directly behind an N";
        faultyBehind("late ", "5late;", 1);
        faultyBehind("late 5 ", "late;", 2);
        faultyBehind("smith a wage ", "1a;", 1);
        faultyBehind(A_YARD + "hours a x ", "9999z;", 1);
        good("late 5;horse x;", 0);
    }

    private static void ownWordsAreNoNames() {
        promise = "Terms 1, words that stand for themselves here are no NAMES";
        for (String word : OWN_WORDS) {
            faultyBehind("smith ", word + " wage 1;", 2);
            faultyBehind("horse ", word + ";", 2);
            faultyBehind(A_YARD + "hours ", word + " x 1;", 2);
            faultyBehind(A_YARD + "hours a ", word + " 1;", 2);
            faultyBehind(A_YARD + "lends ", word + " a;", 2);
            faultyBehind(A_YARD + "lends a ", word + ";", 2);
            String less = word.substring(1);
            String more = word + "s";
            good("smith " + less + " wage 1;smith " + more + " wage 1;horse " + less + ";horse " + more + ";", 2);
        }
        good("smith yard wage 1;smith line wage 1;horse name;horse n;", 2);
    }

    private static void eightSmiths() {
        promise = "Terms 1, at most 8 SMITHS, numbered as told";
        good(smiths(7), 7);
        good(smiths(8), 8);
        faultyBehind(smiths(8), "smith i wage 1;", 2);
        ShoeingDay x = told(smiths(8) + "horse x;hours h x 9;hours a x 1;");
        due("lacks of the first", x.lacks(0, 0), 1);
        due("lacks of the eighth", x.lacks(7, 0), 9);
        due("lacks of a ninth", x.lacks(8, 0), NONE);
    }

    private static void tenHorses() {
        promise = "Terms 1, at most 10 HORSES, numbered as told";
        good(horses(9), 0);
        good(horses(10), 0);
        faultyBehind(horses(10), "horse k;", 2);
        ShoeingDay x = told("smith a wage 1;" + horses(10) + "hours a j 9;hours a a 1;");
        due("horses", x.about(1), 10);
        due("lacks of the first", x.lacks(0, 0), 1);
        due("lacks of the tenth", x.lacks(0, 9), 9);
        due("lacks of an eleventh", x.lacks(0, 10), NONE);
    }

    private static void wagesUpTo99() {
        promise = "Terms 1, wage 0 .. 99";
        String behind = "horse x;hours a x 1;";
        due("wage 0", told("smith a wage 0;" + behind).wages(), 0);
        due("wage 99", told("smith a wage 99;" + behind).wages(), 99);
        faultyBehind("smith a wage ", "100;", 4);
        faultyBehind("smith a master wage ", "9999;", 4);
        faultyBehind("smith a wage ", "-1;", 1);
    }

    private static void quartersUpTo99() {
        promise = "Terms 1, QUARTERS 0 .. 99; 0 if not told";
        ShoeingDay x = told(A_YARD + "hours a x 0;hours a y 99;");
        due("told 0", x.lacks(0, 0), 0);
        due("told 99", x.lacks(0, 1), 99);
        due("not told", x.lacks(1, 0), 0);
        faultyBehind(A_YARD + "hours a x ", "100;", 4);
        faultyBehind(A_YARD + "hours a x ", "9999;", 4);
        faultyBehind(A_YARD + "hours a x ", "-1;", 1);
    }

    private static String hoursLines(int count) {
        StringBuilder text = new StringBuilder();
        for (int i = 0; i < count; i++) {
            text.append("hours ").append((char) ('a' + i % 8)).append(' ').append((char) ('a' + i / 8)).append(" 1;");
        }
        return text.toString();
    }

    private static void sixtyHoursLines() {
        promise = "Terms 1, 60 hours lines";
        String ahead = smiths(8) + horses(10);
        good(ahead + hoursLines(59), 8);
        due("lacked", told(ahead + hoursLines(60)).about(3), 60);
        faultyBehind(ahead + hoursLines(60), "hours h j 1;", 2);
        faultyBehind(ahead + hoursLines(60), "hours h j 0;", 2);
        good(ahead + hoursLines(60) + "late 1;", 8);
    }

    private static void hoursToldAhead() {
        promise = "Terms 1, hours: a SMITH, a HORSE, told ahead";
        good("horse x;smith a wage 1;hours a x 1;", 1);
        faultyBehind("horse x;hours ", "a x 1;smith a wage 1;", 5);
        faultyBehind("smith a wage 1;hours a ", "x 1;horse x;", 5);
        faultyBehind("smith a wage 1;horse x;hours ", "x x 1;", 5);
        faultyBehind("smith a wage 1;horse x;hours a ", "a 1;", 5);
        ShoeingDay x = told("smith a wage 1;horse x;");
        put(x, "smith b wage 1;horse y;hours a y 1;");
        due("yard with a smith of the yard before", x.yard(), NONE);
        due("fault(0)", x.fault(0), 5);
        put(x, "smith b wage 1;horse y;hours b x 1;");
        due("yard with a horse of the yard before", x.yard(), NONE);
        due("fault(0)", x.fault(0), 5);
    }

    private static void eachPairOnce() {
        promise = "Terms 1, hours: each pair once";
        good(A_YARD + "hours a x 1;hours a y 1;hours b x 1;hours b y 1;", 3);
        faultyBehind(A_YARD + "hours a x 1;hours a ", "x 1;", 3);
        faultyBehind(A_YARD + "hours a x 0;hours b x 1;hours a ", "x 0;", 3);
    }

    private static String lendsLines(int count) {
        StringBuilder text = new StringBuilder();
        for (int i = 0; i < count; i++) {
            int first = i % 8;
            int second = (first + 1 + i / 8) % 8;
            text.append("lends ").append((char) ('a' + first)).append(' ').append((char) ('a' + second)).append(';');
        }
        return text.toString();
    }

    private static void twentyLendsLines() {
        promise = "Terms 1, 20 lends lines";
        good(masters(8) + lendsLines(19), 8);
        good(masters(8) + lendsLines(20), 8);
        faultyBehind(masters(8) + lendsLines(20), "lends h g;", 2);
        good(masters(8) + lendsLines(20) + "late 1;", 8);
    }

    private static void lendsOfUnlikeMastersToldAhead() {
        promise = "Terms 1, lends: two unlike MASTERS told ahead";
        good(A_YARD + "lends a b;", 3);
        faultyBehind(A_YARD + "lends a ", "a;", 3);
        faultyBehind(A_YARD + "lends ", "c a;", 6);
        faultyBehind(A_YARD + "lends a ", "c;", 6);
        faultyBehind(A_YARD + "lends ", "d a;", 5);
        faultyBehind(A_YARD + "lends a ", "d;", 5);
        faultyBehind(A_YARD + "lends ", "x a;", 5);
        faultyBehind("smith a master wage 1;lends a ", "b;smith b master wage 1;", 5);
        faultyBehind("smith a master wage 1;lends ", "b a;smith b master wage 1;", 5);
        good(lines("smith ", 6, " wage 1;") + "smith g master wage 1;smith h master wage 1;lends h g;", 8);
    }

    private static void eachTwoOnceThisWayAbout() {
        promise = "Terms 1, lends: each two once, this way about; the second may stand for the first";
        good(A_YARD + "lends a b;lends b a;", 3);
        faultyBehind(A_YARD + "lends a b;lends a ", "b;", 3);
        faultyBehind(A_YARD + "lends a b;lends b a;lends b ", "a;", 3);
        ShoeingDay x = told(A_YARD + "hours a x 8;lends a b;");
        due("b for a", x.even(), 4);
        put(x, A_YARD + "hours a x 8;lends b a;");
        due("yard, the other way about", x.yard(), 3);
        due("a for b", x.even(), 8);
    }

    private static void lateOnce() {
        promise = "Terms 1, late once (0 .. 9999; none is LATE, if it is not told)";
        due("late 0", told("late 0;").about(10), 0);
        due("late 9999", told("late 9999;").about(10), 9999);
        due("not told", told("horse x;").about(10), NONE);
        faultyBehind("late ", "10000;", 1);
        faultyBehind("late 0;", "late 0;", 2);
        faultyBehind("late 9999;horse x;", "late 1;", 2);
        ShoeingDay x = told("late 7;");
        put(x, "late 8;");
        due("late in the next yard", x.yard(), 0);
        due("late", x.about(10), 8);
        due("yard of nothing", x.yard(), 0);
        due("late", x.about(10), NONE);
    }

    private static void firstFaultByItsPlace() {
        promise = "Terms 1, FAULTS, the first by its place (bytes from 0)";
        faulty("?", 1, 0);
        faulty(" ?", 1, 1);
        faulty("\n\n;", 2, 2);
        faulty("smith a wage 100;smith a wage 1;?", 4, 13);
        faulty("horse x;horse x;hours a y 100;", 3, 14);
        faulty("hours a y 100;?", 5, 6);
        faulty("smith c wage 1;lends c d;?", 6, 21);
        faulty("late x;late 12345;", 2, 5);
        faulty("late 12345;late x;", 1, 5);
        faulty(masters(8) + "smith a wage 100;", 2, masters(8).length());
    }

    private static void faultAtTheEnd() {
        promise = "Terms 1, FAULTS, the end: the text's length";
        String[] lines = {"smith a master wage 1;", "horse y;", "late 5;"};
        for (String line : lines) {
            for (int length = 1; length < line.length(); length++) {
                String text = line.substring(0, length);
                boolean cut = line.charAt(length) >= 'a' && line.charAt(length - 1) >= 'a';
                if (cut && !text.contains(" ")) {
                    faulty(text, 2, 0);
                } else if (cut) {
                    faulty(text, 2, text.lastIndexOf(' ') + 1);
                } else {
                    faulty(text, 1, length);
                }
            }
        }
        faulty("horse x;hours ", 1, 14);
        faulty("late 5 \n", 1, 8);
    }

    private static void leastFaultAtOnePlace() {
        promise = "Terms 1, FAULTS, at one place the least";
        // no token, though the number can't be either
        faultyBehind("smith a wage ", "12345;", 1);
        faultyBehind("smith a wage ", "100x;", 1);
        // no name at all, though nothing is called so
        faultyBehind(A_YARD + "hours ", "late x 1;", 2);
        faultyBehind(A_YARD + "lends a ", "late;", 2);
        // no token, though nothing of it could stand there
        faultyBehind("", "12345;", 1);
        faultyBehind("", "abcdefghi;", 1);
        // no smith at all rather than one who is no master
        faultyBehind(A_YARD + "lends a ", "q;", 5);
        // one too many rather than what comes behind
        faultyBehind(horses(10), "horse a;", 2);
    }

    /** The sort of a token: a NAME is A, a number N; a word of its own, or the sign, is its own sort. */
    private static String sortOf(String token) {
        if (token.matches("[0-9]+")) {
            return "N";
        }
        return token.equals(";") || java.util.Arrays.asList(OWN_WORDS).contains(token) ? token : "A";
    }

    /** Which sorts can stand in a place of a line, of which the tokens ahead are known. */
    private static String canStand(String[] line, int place) {
        if (place == 0) {
            return "smith horse hours lends late";
        }
        return line[0].equals("smith") && place == 2 ? "master wage" : sortOf(line[place]);
    }

    private static void everyTokenInEveryPlace() {
        promise = "Terms 1, the lines; FAULTS 1 no TOKEN, 2 one that can't stand there";
        String[] lines = {"smith q wage 1 ;", "smith q master wage 1 ;", "horse q ;", "hours a x 1 ;", "lends a b ;", "late 1 ;"};
        String[] tokens = {"smith", "master", "wage", "horse", "hours", "lends", "late", "q", "1", ";"};
        for (String line : lines) {
            good(A_YARD + line, line.startsWith("smith") ? 4 : 3);
            String[] words = line.split(" ");
            StringBuilder ahead = new StringBuilder(A_YARD);
            for (int place = 0; place < words.length; place++) {
                String sorts = " " + canStand(words, place) + " ";
                String rest = (A_YARD + line).substring(ahead.length() + words[place].length());
                for (String token : tokens) {
                    if (!sorts.contains(" " + sortOf(token) + " ")) {
                        faultyBehind(ahead.toString(), token + " " + line, 2);
                        faultyBehind(ahead.toString(), token + rest, 2);
                    }
                }
                faultyBehind(ahead.toString(), "?", 1);
                if (place > 0) {
                    faultyBehind(ahead.toString(), "", 1);
                }
                ahead.append(words[place]).append(' ');
            }
        }
    }

    private static void tooManyAtTheLinesFirstWord() {
        promise = "Terms 1, FAULTS 2, one of a sort too many or a second time: at the line's first word";
        String[] rests = {"", " ", "?", " ?", " 5", ";", " abcdefghi"};
        String ahead = masters(8) + horses(10);
        for (String rest : rests) {
            faultyBehind(ahead + "\n ", "smith" + rest, 2);
            faultyBehind(ahead, "horse" + rest, 2);
            faultyBehind(ahead + hoursLines(60), "hours" + rest, 2);
            faultyBehind(ahead + lendsLines(20) + " ", "lends" + rest, 2);
            faultyBehind(ahead + "late 1;", "late" + rest, 2);
        }
        faultyBehind(ahead, "smith a wage 100;", 2);
        faultyBehind(ahead + hoursLines(60), "hours a a 100;", 2);
        faultyBehind(ahead + lendsLines(20), "lends a a;", 2);
    }

    private static void newObject() {
        promise = "Promise 1, an empty YARD";
        due("NONE", NONE, -1);
        ShoeingDay x = new ShoeingDay();
        for (int what = 0; what <= 9; what++) {
            due("about(" + what + ")", x.about(what), 0);
        }
        due("about(10)", x.about(10), NONE);
        due("fault(0)", x.fault(0), 0);
        due("fault(1)", x.fault(1), NONE);
        due("lacks(0, 0)", x.lacks(0, 0), NONE);
        due("sum(0, false)", x.sum(0, false), NONE);
        due("sum(0, true)", x.sum(0, true), NONE);
        due("least", x.least(), 0);
        due("busy(false)", x.busy(false), 0);
        due("busy(true)", x.busy(true), 0);
        due("rounds", x.rounds(), 0);
        due("lasts(0)", x.lasts(0), NONE);
        due("with(0, 0)", x.with(0, 0), NONE);
        due("wages", x.wages(), 0);
        due("parted(1, 0, 0, 0)", x.parted(1, 0, 0, 0), NONE);
        due("even", x.even(), 0);
        due("proof", x.proof(), 0);
        due("more(0, 0, 0)", x.more(0, 0, 0), NONE);
        due("breaks(0, 1)", x.breaks(0, 1), NONE);
        due("undo", x.undo(), false);
        due("redo", x.redo(), false);
        due("judge(0)", x.judge(0), NONE);
        due("judge(1)", x.judge(1), 0);
        due("judge(2)", x.judge(2), 0);
        due("hush", x.hush(), 0);
        due("sight(0, 0, NONE)", x.sight(0, 0, NONE), NONE);
        due("untell(0)", x.untell(0), false);
        due("fits(0, 0, 0)", x.fits(0, 0, 0), NONE);
        for (int box = 0; box < 3; box++) {
            due("back(" + box + ")", x.back(box), NONE);
        }
        due("end(0)", x.end(0), 0);
        due("end(1)", x.end(1), NONE);
        due("yard", x.yard(), 0);
        due("the same as one with an empty text", lookThrough(new ShoeingDay()), lookThrough(told("")));
    }

    private static void feedHighestFirst() {
        promise = "Promise 2, twenty bytes come behind those on the TAPE, of each number the highest first";
        // each of the twenty places once: a word of its own there, blanks elsewhere, and no token behind it
        for (int place = 0; place < 20; place++) {
            ShoeingDay x = new ShoeingDay();
            due("feed", feed(x, blanks(place) + "?", 0), 20);
            due("yard", x.yard(), NONE);
            due("fault(0)", x.fault(0), 1);
            due("fault(1)", x.fault(1), place);
        }
        ShoeingDay x = new ShoeingDay();
        due("feed", x.feed(0x20202020, 0x20202020, 0x20202020, 0x20202020, 0x202020ff), 20);
        due("feed", x.feed(0x80202020, 0x20202020, 0x20202020, 0x20202020, 0x20202020), 40);
        due("yard", x.yard(), NONE);
        due("fault(1), a byte of 255", x.fault(1), 19);
        due("end", x.end(19), 19);
        due("feed", x.feed(MIN, MAX, 0, -1, 1), 39);
        due("yard", x.yard(), NONE);
        due("fault(1), a byte of 128", x.fault(1), 19);
    }

    private static void fill(ShoeingDay x, String text, int length) {
        x.end(0);
        for (int at = 0; at < length; at += 20) {
            feed(x, text, at);
        }
        due("end(" + length + ")", x.end(length), length);
    }

    private static void feedUpTo1700() {
        promise = "Promise 2, NONE, and nothing comes, if there would be more than 1,700";
        ShoeingDay x = new ShoeingDay();
        for (int bytes = 20; bytes <= 1700; bytes += 20) {
            due("feed", feed(x, "", 0), bytes);
        }
        due("feed at 1700", feed(x, "", 0), NONE);
        due("bytes", x.about(9), 1700);
        due("end", x.end(1680), 1680);
        due("feed at 1680", feed(x, "", 0), 1700);
        due("end", x.end(1679), 1679);
        due("feed at 1679", feed(x, "", 0), 1699);
        due("feed at 1699", feed(x, "", 0), NONE);
        for (int bytes : new int[] {1681, 1690, 1699, 1700}) {
            String text = blanks(bytes - 8) + "horse x;";
            refused("feed at " + bytes, one -> fill(one, text, bytes), one -> feed(one, "????????????????????", 0));
        }
    }

    private static void endOnEitherSide() {
        promise = "Promise 3, NONE, doing nothing, if it has not so many, or n is below 0";
        ShoeingDay x = new ShoeingDay();
        due("end(0) of nothing", x.end(0), 0);
        feed(x, "horse x;horse y;hors", 0);
        due("end(20)", x.end(20), 20);
        due("bytes", x.about(9), 20);
        due("end(21)", x.end(21), NONE);
        due("end(16)", x.end(16), 16);
        due("end(17), which were there once", x.end(17), NONE);
        due("feed behind 16", feed(x, "horse z;", 0), 36);
        due("yard", x.yard(), 0);
        due("horses", x.about(1), 3);
        due("end(1) behind yard", x.end(1), NONE);
        due("end(0) behind yard", x.end(0), 0);
        for (int n : new int[] {20, 21, 1700, 1701, MAX, -1, -20, MIN}) {
            refused("end(" + n + ")", one -> one.end(n));
        }
        refused("end(1) of nothing", one -> { }, one -> one.end(1));
        refused("end(1701)", one -> fill(one, "horse x;", 1700), one -> one.end(1701));
        due("end(1)", told("").end(1), NONE);
    }

    private static void yardOfAnEmptyTape() {
        promise = "Promise 4, the TAPE (empty then) is the YARD: how many SMITHS";
        for (int count = 0; count <= 8; count++) {
            ShoeingDay x = new ShoeingDay();
            put(x, smiths(count));
            due("yard of " + count, x.yard(), count);
            due("bytes", x.about(9), 0);
            due("yard of nothing", x.yard(), 0);
            due("smiths", x.about(0), 0);
        }
    }

    private static void yardBeginsAnew() {
        promise = "Promise 4, QUARTER 0, all as told, no ACTS, no ROUNDS, no SIGHTS, BOXES are empty; the TIME stays";
        ShoeingDay x = new ShoeingDay();
        busyStory(x);
        due("rounds before", x.rounds(), 4);
        due("parted before", x.parted(2, 0, 0, 0), 0);
        put(x, TWO);
        due("yard", x.yard(), 2);
        ShoeingDay twin = new ShoeingDay();
        twin.later(9);
        put(twin, TWO);
        twin.yard();
        due("all behind yard", lookThrough(x), lookThrough(twin));
    }

    private static void yardKeepsNothingOfTextsBefore() {
        promise = "Promise 4, all as told: nothing of the texts before, be they good or faulty";
        String hours = smiths(8) + horses(10) + hoursLines(60) + "late 0;";
        String lends = masters(8) + lendsLines(20) + "late 1;";
        for (String last : new String[] {"", "?"}) {
            ShoeingDay x = new ShoeingDay();
            for (int i = 0; i < 3; i++) {
                put(x, hours + last);
                due("yard of hours, time " + i, x.yard(), last.isEmpty() ? 8 : NONE);
                due("its last fault", x.fault(0), last.isEmpty() ? 0 : 1);
            }
            for (int i = 0; i < 3; i++) {
                put(x, lends + last);
                due("yard of lends, time " + i, x.yard(), last.isEmpty() ? 8 : NONE);
                due("its last fault", x.fault(0), last.isEmpty() ? 0 : 1);
            }
            put(x, smiths(8) + "lends a b;");
            due("yard of no masters", x.yard(), NONE);
            due("its fault", x.fault(0), 6);
            put(x, masters(8) + horses(1) + "hours a a 8;");
            due("yard of masters who lend nothing", x.yard(), 8);
            due("even", x.even(), 8);
            put(x, TWO);
            due("yard", x.yard(), 2);
            due("all", lookThrough(x), lookThrough(told(TWO)));
        }
    }

    private static void yardWithAFault() {
        promise = "Promise 4, NONE: a FAULT (all stays)";
        String[] faults = {"?", "late", "smith a wage 100;", TWO + TWO, TWO + ";", "smith c master wage 1;late 5;lends c c;"};
        for (String text : faults) {
            ShoeingDay x = new ShoeingDay();
            busyStory(x);
            put(x, text);
            due("yard", x.yard(), NONE);
            due("bytes", x.about(9), text.length());
            due("yard once more", x.yard(), NONE);
            put(x, "horse x;horse y;hor");
            due("yard", x.yard(), NONE);
            ShoeingDay twin = new ShoeingDay();
            busyStory(twin);
            due("yard of the twin", twin.yard(), NONE);
            due("all behind a fault", lookThrough(x), lookThrough(twin));
        }
    }

    private static void faultOfTheLatestYard() {
        promise = "Promise 5, of the latest yard() its FAULT (0), its place (NONE); NONE for another what";
        ShoeingDay x = told(TWO);
        String[] texts = {"", "?", "late", "horse x;horse x;", "smith a wage 100;", "hours a x 1;",
            "smith a wage 1;lends a a;", "horse x;"};
        int[] kinds = {0, 1, 1, 3, 4, 5, 6, 0};
        int[] places = {NONE, 0, 4, 14, 13, 6, 21, NONE};
        for (int i = 0; i < texts.length; i++) {
            put(x, texts[i]);
            due("yard of [" + texts[i] + "]", x.yard(), kinds[i] == 0 ? 0 : NONE);
            due("fault(0) of [" + texts[i] + "]", x.fault(0), kinds[i]);
            due("fault(1) of [" + texts[i] + "]", x.fault(1), places[i]);
            for (int what : new int[] {MIN, -2, -1, 2, 3, MAX}) {
                due("fault(" + what + ")", x.fault(what), NONE);
            }
        }
        put(x, "?");
        x.yard();
        put(x, TWO);
        due("fault(0), before the next yard()", x.fault(0), 1);
        due("fault(1), before the next yard()", x.fault(1), 0);
    }

    private static void theLastOf512Calls() {
        promise = "What it is, an object is used for at most 512 calls";
        ShoeingDay x = new ShoeingDay();
        for (int call = 1; call <= 512; call++) {
            due("later(1), call " + call, x.later(1), call);
        }
        ShoeingDay full = new ShoeingDay();
        for (int call = 1; call <= 511; call++) {
            full.run(1);
        }
        due("about(4), call 512", full.about(4), 40);
    }
}
