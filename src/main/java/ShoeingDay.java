import java.util.Arrays;

/**
 * A yard on shoeing day: horses that need told quarters of smiths, the shortest day cut into rounds,
 * a day in earnest, told rounds, and sights of a lost entry. The document's promises say the rest.
 */
public final class ShoeingDay {
    public static final int NONE = -1;

    private static final int MOST_SMITHS = 8;
    private static final int MOST_HORSES = 10;
    private static final int MOST_PAIRS = MOST_SMITHS * MOST_HORSES;
    private static final int MOST_QUARTERS = 99;
    private static final int MOST_RUN = 999;
    private static final int MOST_DAYS = 9;
    private static final int MOST_BYTES = 1700;
    private static final int FEED_BYTES = 20;
    private static final int MOST_BOXES = 3;
    private static final int LAST_QUARTER = 999;
    private static final int LATEST_TIME = 100000;
    private static final int LONGEST_WAIT = 1000;
    private static final int MOST_LOST_HOURS = 40;
    // Each round but the last uses up a pair (80) or makes one more busy (18): no day has more.
    private static final int MOST_ROUNDS = 100;

    private final byte[] tape = new byte[MOST_BYTES];
    private final Scribe scribe = new Scribe();
    private final Ledger now = new Ledger();
    private final Acts acts = new Acts();
    private final Shelf boxes = new Shelf(MOST_BOXES);
    private final Day day = new Day();
    private final Parting parting = new Parting();
    private final ToldRounds toldRounds = new ToldRounds();
    private final Sights sights = new Sights();
    private final int[] smithSums = new int[MOST_SMITHS];
    private Yard told = new Yard();
    private int taped = 0;
    private int time = 0;

    public ShoeingDay() {
        acts.forget(now);
    }

    public int feed(int a, int b, int c, int d, int e) {
        if (taped + FEED_BYTES > MOST_BYTES) {
            return NONE;
        }
        putFour(a);
        putFour(b);
        putFour(c);
        putFour(d);
        putFour(e);
        return taped;
    }

    public int end(int n) {
        if (n < 0 || n > taped) {
            return NONE;
        }
        taped = n;
        return n;
    }

    public int yard() {
        scribe.copy(tape, taped);
        if (scribe.fault != 0) {
            return NONE;
        }
        told = scribe.trade(told);
        taped = 0;
        now.begin(told);
        acts.forget(now);
        boxes.empty();
        toldRounds.count = 0;
        sights.forget();
        lackIsNew();
        return told.smiths;
    }

    public int fault(int what) {
        if (what == 0) {
            return scribe.fault;
        }
        return what == 1 ? scribe.place : NONE;
    }

    public int lacks(int smith, int horse) {
        return isPair(smith, horse) ? now.lacked[cellOf(smith, horse)] : NONE;
    }

    public int sum(int one, boolean horses) {
        if (horses) {
            return isHorse(one) ? now.ofHorse(one) : NONE;
        }
        return isSmith(one) ? now.ofSmith(one) : NONE;
    }

    public int least() {
        return now.greatest();
    }

    public int busy(boolean horses) {
        int greatest = now.greatest();
        int count = horses ? told.horses : told.smiths;
        int bits = 0;
        for (int one = 0; one < count; one++) {
            int lacked = horses ? now.ofHorse(one) : now.ofSmith(one);
            if (lacked == greatest) {
                bits |= 1 << one;
            }
        }
        return bits;
    }

    public int rounds() {
        day.list(now);
        return day.listed;
    }

    public int lasts(int i) {
        day.list(now);
        return i >= 0 && i < day.listed ? day.listedSpans[i] : NONE;
    }

    public int with(int i, int smith) {
        day.list(now);
        if (i < 0 || i >= day.listed || !isSmith(smith)) {
            return NONE;
        }
        return day.listedStands[i * MOST_SMITHS + smith];
    }

    public int wages() {
        day.list(now);
        return day.payListed(told, now.quarter);
    }

    public int parted(int n, int day, int smith, int horse) {
        if (n < 1 || n > MOST_DAYS || day < 0 || day >= n || !isPair(smith, horse)) {
            return NONE;
        }
        parting.cutUp(n, now);
        return parting.shares[day * MOST_PAIRS + cellOf(smith, horse)];
    }

    public int even() {
        sumSmiths();
        return mustDo(busiestSet());
    }

    public int proof() {
        sumSmiths();
        return busiestSet();
    }

    public int run(int quarters) {
        if (quarters < 1 || quarters > MOST_RUN) {
            return NONE;
        }
        day.open(now.lacked, now.smiths, now.horses);
        int gone = day.goOn(quarters);
        System.arraycopy(day.left, 0, now.lacked, 0, MOST_PAIRS);
        now.quarter += gone;
        actIsDone();
        return gone;
    }

    public int more(int smith, int horse, int by) {
        if (!isPair(smith, horse) || by < -MOST_QUARTERS || by > MOST_QUARTERS) {
            return NONE;
        }
        int cell = cellOf(smith, horse);
        int then = now.lacked[cell] + by;
        if (then < 0 || then > MOST_QUARTERS) {
            return NONE;
        }
        now.lacked[cell] = then;
        actIsDone();
        return then;
    }

    public int breaks(int smith, int other) {
        if (!isSmith(smith) || !isSmith(other) || smith == other || !now.canHandOver(smith, other)) {
            return NONE;
        }
        int handed = now.handOver(smith, other);
        actIsDone();
        return handed;
    }

    public boolean undo() {
        boolean was = acts.takeBack(now);
        lackIsNew();
        return was;
    }

    public boolean redo() {
        boolean was = acts.doAgain(now);
        lackIsNew();
        return was;
    }

    public int round(int lasts) {
        return lasts < 1 || lasts > MOST_QUARTERS ? NONE : toldRounds.beginOne(lasts);
    }

    public int pair(int smith, int horse) {
        return isPair(smith, horse) ? toldRounds.addPair(cellOf(smith, horse)) : NONE;
    }

    public int hush() {
        int were = toldRounds.count;
        toldRounds.count = 0;
        return were;
    }

    public int judge(int what) {
        if (what < 0 || what > 2) {
            return NONE;
        }
        toldRounds.weigh(now);
        if (what == 0) {
            return toldRounds.wrong;
        }
        return what == 1 ? toldRounds.lackedBehind : toldRounds.lasted;
    }

    public int sight(int quarter, int smith, int horse) {
        boolean where = horse == NONE || isHorse(horse);
        if (quarter < 0 || quarter > LAST_QUARTER || !isSmith(smith) || !where) {
            return NONE;
        }
        return sights.tell(quarter, smith, horse, time);
    }

    public boolean untell(int sight) {
        return sights.takeBack(sight, time);
    }

    public int later(int by) {
        if (by < 0 || by > LONGEST_WAIT || time + by > LATEST_TIME) {
            return NONE;
        }
        time += by;
        return time;
    }

    public long fits(int smith, int horse, int k) {
        if (!isPair(smith, horse)) {
            return NONE;
        }
        int counting = sights.countingAt(k);
        int cell = cellOf(smith, horse);
        if (sights.askedOf[cell] != counting) {
            sights.askedOf[cell] = counting;
            sights.answers[cell] = 0;
            for (int hours = 0; hours <= MOST_LOST_HOURS; hours++) {
                openLost(cell, hours);
                if (sights.areSo(counting, day)) {
                    sights.answers[cell] |= 1L << hours;
                }
            }
        }
        return sights.answers[cell];
    }

    public int image(int box) {
        if (box < 0 || box >= MOST_BOXES) {
            return NONE;
        }
        boxes.keep(box, now);
        return now.quarter;
    }

    public int back(int box) {
        if (!boxes.fetch(box, now)) {
            return NONE;
        }
        acts.forget(now);
        lackIsNew();
        return now.quarter;
    }

    public int about(int what) {
        switch (what) {
            case 0: return told.smiths;
            case 1: return told.horses;
            case 2: return now.quarter;
            case 3: return now.together();
            case 4: return acts.done;
            case 5: return acts.undone;
            case 6: return toldRounds.count;
            case 7: return sights.count;
            case 8: return time;
            case 9: return taped;
            case 10: return told.late;
            default: return NONE;
        }
    }

    private void putFour(int four) {
        for (int shift = 24; shift >= 0 && taped < tape.length; shift -= 8) {
            tape[taped] = (byte) (four >> shift);
            taped++;
        }
    }

    private boolean isSmith(int smith) {
        return smith >= 0 && smith < told.smiths;
    }

    private boolean isHorse(int horse) {
        return horse >= 0 && horse < told.horses;
    }

    private boolean isPair(int smith, int horse) {
        return isSmith(smith) && isHorse(horse);
    }

    /** What was reckoned from the lacked quarters holds no longer. */
    private void lackIsNew() {
        day.listIsGood = false;
        parting.days = 0;
    }

    private void actIsDone() {
        acts.add(now);
        lackIsNew();
    }

    private void sumSmiths() {
        for (int smith = 0; smith < told.smiths; smith++) {
            smithSums[smith] = now.ofSmith(smith);
        }
    }

    /** The least set whose smiths must do most: no way to lend can do with less, and some way needs no more. */
    private int busiestSet() {
        int most = 0;
        int first = 0;
        for (int set = 1; set < 1 << told.smiths; set++) {
            int each = mustDo(set);
            if (each > most) {
                most = each;
                first = set;
            }
        }
        return first;
    }

    /** What each of a set must do at least, if they part evenly what nobody outside it may work. */
    private int mustDo(int set) {
        int work = 0;
        for (int smith = 0; smith < told.smiths; smith++) {
            int may = told.standIns[smith] | 1 << smith;
            if ((may & ~set) == 0) {
                work += smithSums[smith];
            }
        }
        int heads = Integer.bitCount(set);
        return heads == 0 ? 0 : (work + heads - 1) / heads;
    }

    private void openLost(int cell, int hours) {
        int[] trial = sights.trial;
        System.arraycopy(told.hours, 0, trial, 0, MOST_PAIRS);
        trial[cell] = hours;
        day.open(trial, told.smiths, told.horses);
    }

    private static int cellOf(int smith, int horse) {
        return smith * MOST_HORSES + horse;
    }

    /** The place of the lowest bit of a mask that is not 0. */
    private static int lowest(int mask) {
        return Integer.bitCount((mask & -mask) - 1);
    }

    /** What a text tells: smiths, horses, hours, who may stand for whom, and late. */
    private static final class Yard {
        final long[] smithNames = new long[MOST_SMITHS];
        final long[] horseNames = new long[MOST_HORSES];
        final int[] wageOf = new int[MOST_SMITHS];
        final int[] standIns = new int[MOST_SMITHS];
        final int[] pairsTold = new int[MOST_SMITHS];
        final int[] hours = new int[MOST_PAIRS];
        int smiths = 0;
        int horses = 0;
        int masters = 0;
        int hoursLines = 0;
        int lendsLines = 0;
        int late = NONE;

        void clear() {
            smiths = 0;
            horses = 0;
            masters = 0;
            hoursLines = 0;
            lendsLines = 0;
            late = NONE;
            Arrays.fill(standIns, 0);
            Arrays.fill(pairsTold, 0);
            Arrays.fill(hours, 0);
        }

        int smithNamed(long name) {
            for (int smith = 0; smith < smiths; smith++) {
                if (smithNames[smith] == name) {
                    return smith;
                }
            }
            return NONE;
        }

        int horseNamed(long name) {
            for (int horse = 0; horse < horses; horse++) {
                if (horseNames[horse] == name) {
                    return horse;
                }
            }
            return NONE;
        }

        void addSmith(long name, boolean master, int wage) {
            if (smiths < MOST_SMITHS) {
                smithNames[smiths] = name;
                wageOf[smiths] = wage;
                if (master) {
                    masters |= 1 << smiths;
                }
                smiths++;
            }
        }

        void addHorse(long name) {
            if (horses < MOST_HORSES) {
                horseNames[horses] = name;
                horses++;
            }
        }

        void addHours(int smith, int horse, int quarters) {
            pairsTold[smith] |= 1 << horse;
            hours[cellOf(smith, horse)] = quarters;
            hoursLines++;
        }

        void addLends(int first, int second) {
            standIns[first] |= 1 << second;
            lendsLines++;
        }
    }

    /** Cuts a text into tokens, one at a time. */
    private static final class Reader {
        static final int END = 0;
        static final int BAD = 1;
        static final int NUMBER = 2;
        static final int STOP = 3;
        static final int NAME = 4;
        static final int SMITH = 5;
        static final int MASTER = 6;
        static final int WAGE = 7;
        static final int HORSE = 8;
        static final int HOURS = 9;
        static final int LENDS = 10;
        static final int LATE = 11;
        private static final int LONGEST_WORD = 8;
        private static final int LONGEST_NUMBER = 4;
        private static final int LETTER_BITS = 5;

        private final long smithWord = codeOf("smith");
        private final long masterWord = codeOf("master");
        private final long wageWord = codeOf("wage");
        private final long horseWord = codeOf("horse");
        private final long hoursWord = codeOf("hours");
        private final long lendsWord = codeOf("lends");
        private final long lateWord = codeOf("late");
        private byte[] text = new byte[0];
        private int length = 0;
        private int place = 0;
        int kind = END;
        int start = 0;
        long word = 0;
        int number = 0;

        void open(byte[] bytes, int count) {
            text = bytes;
            length = Math.min(count, bytes.length);
            place = 0;
        }

        void next() {
            while (place < length && (text[place] == ' ' || text[place] == '\n')) {
                place++;
            }
            start = place;
            if (place >= length) {
                kind = END;
            } else if (isLetter(text[place])) {
                readWord();
            } else if (isDigit(text[place])) {
                readNumber();
            } else {
                kind = text[place] == ';' ? STOP : BAD;
                place++;
            }
        }

        private void readWord() {
            word = 0;
            while (place < length && isLetter(text[place])) {
                word = word << LETTER_BITS | text[place] - 'a' + 1;
                place++;
            }
            kind = place - start > LONGEST_WORD ? BAD : kindOfWord();
        }

        private void readNumber() {
            number = 0;
            while (place < length && isDigit(text[place])) {
                number = number * 10 + text[place] - '0';
                place++;
            }
            boolean grown = place < length && isLetter(text[place]);
            kind = grown || place - start > LONGEST_NUMBER ? BAD : NUMBER;
        }

        private int kindOfWord() {
            if (word == smithWord) {
                return SMITH;
            }
            if (word == masterWord) {
                return MASTER;
            }
            if (word == wageWord) {
                return WAGE;
            }
            if (word == horseWord) {
                return HORSE;
            }
            if (word == hoursWord) {
                return HOURS;
            }
            if (word == lendsWord) {
                return LENDS;
            }
            return word == lateWord ? LATE : NAME;
        }

        private static boolean isLetter(int sign) {
            return sign >= 'a' && sign <= 'z';
        }

        private static boolean isDigit(int sign) {
            return sign >= '0' && sign <= '9';
        }

        private static long codeOf(String letters) {
            long code = 0;
            for (int i = 0; i < letters.length(); i++) {
                code = code << LETTER_BITS | letters.charAt(i) - 'a' + 1;
            }
            return code;
        }
    }

    /** Copies a text onto a sheet, up to its first fault. */
    private static final class Scribe {
        private static final int NO_TOKEN = 1;
        private static final int CANNOT_STAND = 2;
        private static final int TOLD_ALREADY = 3;
        private static final int NO_NUMBER = 4;
        private static final int UNKNOWN = 5;
        private static final int NO_MASTER = 6;
        private static final int MOST_WAGE = 99;
        private static final int MOST_LATE = 9999;
        private static final int MOST_HOURS_LINES = 60;
        private static final int MOST_LENDS_LINES = 20;

        private final Reader reader = new Reader();
        private Yard sheet = new Yard();
        int fault = 0;
        int place = NONE;

        void copy(byte[] text, int length) {
            fault = 0;
            place = NONE;
            sheet.clear();
            reader.open(text, length);
            reader.next();
            for (int lines = 0; lines < MOST_BYTES && fault == 0 && reader.kind != Reader.END; lines++) {
                switch (reader.kind) {
                    case Reader.SMITH: copySmith(); break;
                    case Reader.HORSE: copyHorse(); break;
                    case Reader.HOURS: copyHours(); break;
                    case Reader.LENDS: copyLends(); break;
                    case Reader.LATE: copyLate(); break;
                    default: refuseToken();
                }
                reader.next();
            }
        }

        /** Hands out the copied yard for one that is no longer needed, so that two serve for all texts. */
        Yard trade(Yard old) {
            Yard copied = sheet;
            sheet = old;
            return copied;
        }

        private void copySmith() {
            if (!roomFor(sheet.smiths, MOST_SMITHS) || !take(Reader.NAME)) {
                return;
            }
            long name = reader.word;
            if (sheet.smithNamed(name) != NONE) {
                refuse(TOLD_ALREADY);
                return;
            }
            reader.next();
            boolean master = reader.kind == Reader.MASTER;
            if (master) {
                reader.next();
            }
            if (reader.kind != Reader.WAGE) {
                refuseToken();
                return;
            }
            if (!takeNumber(MOST_WAGE)) {
                return;
            }
            if (take(Reader.STOP)) {
                sheet.addSmith(name, master, reader.number);
            }
        }

        private void copyHorse() {
            if (!roomFor(sheet.horses, MOST_HORSES) || !take(Reader.NAME)) {
                return;
            }
            if (sheet.horseNamed(reader.word) != NONE) {
                refuse(TOLD_ALREADY);
            } else if (take(Reader.STOP)) {
                sheet.addHorse(reader.word);
            }
        }

        private void copyHours() {
            if (!roomFor(sheet.hoursLines, MOST_HOURS_LINES)) {
                return;
            }
            int smith = takeSmith();
            if (smith == NONE || !take(Reader.NAME)) {
                return;
            }
            int horse = sheet.horseNamed(reader.word);
            if (horse == NONE) {
                refuse(UNKNOWN);
            } else if ((sheet.pairsTold[smith] >> horse & 1) != 0) {
                refuse(TOLD_ALREADY);
            } else if (takeNumber(MOST_QUARTERS) && take(Reader.STOP)) {
                sheet.addHours(smith, horse, reader.number);
            }
        }

        private void copyLends() {
            if (!roomFor(sheet.lendsLines, MOST_LENDS_LINES)) {
                return;
            }
            int first = takeMaster();
            if (first == NONE) {
                return;
            }
            int second = takeMaster();
            if (second == NONE) {
                return;
            }
            if (first == second || (sheet.standIns[first] >> second & 1) != 0) {
                refuse(TOLD_ALREADY);
            } else if (take(Reader.STOP)) {
                sheet.addLends(first, second);
            }
        }

        private void copyLate() {
            int before = sheet.late == NONE ? 0 : 1;
            if (roomFor(before, 1) && takeNumber(MOST_LATE) && take(Reader.STOP)) {
                sheet.late = reader.number;
            }
        }

        private boolean roomFor(int count, int most) {
            if (count >= most) {
                refuse(CANNOT_STAND);
            }
            return count < most;
        }

        private boolean take(int kind) {
            reader.next();
            if (reader.kind != kind) {
                refuseToken();
            }
            return reader.kind == kind;
        }

        private boolean takeNumber(int most) {
            if (!take(Reader.NUMBER)) {
                return false;
            }
            if (reader.number > most) {
                refuse(NO_NUMBER);
            }
            return reader.number <= most;
        }

        private int takeSmith() {
            return take(Reader.NAME) ? knownSmith() : NONE;
        }

        private int takeMaster() {
            int smith = take(Reader.NAME) ? knownSmith() : NONE;
            if (smith != NONE && (sheet.masters >> smith & 1) == 0) {
                refuse(NO_MASTER);
                return NONE;
            }
            return smith;
        }

        private int knownSmith() {
            int smith = sheet.smithNamed(reader.word);
            if (smith == NONE) {
                refuse(UNKNOWN);
            }
            return smith;
        }

        private void refuseToken() {
            boolean none = reader.kind == Reader.END || reader.kind == Reader.BAD;
            refuse(none ? NO_TOKEN : CANNOT_STAND);
        }

        private void refuse(int kind) {
            if (fault == 0) {
                fault = kind;
                place = reader.start;
            }
        }
    }

    /** What is lacked, and the quarter it is. */
    private static final class Ledger {
        final int[] lacked = new int[MOST_PAIRS];
        int smiths = 0;
        int horses = 0;
        int quarter = 0;

        void begin(Yard yard) {
            System.arraycopy(yard.hours, 0, lacked, 0, MOST_PAIRS);
            smiths = yard.smiths;
            horses = yard.horses;
            quarter = 0;
        }

        int ofSmith(int smith) {
            int all = 0;
            for (int horse = 0; horse < horses; horse++) {
                all += lacked[cellOf(smith, horse)];
            }
            return all;
        }

        int ofHorse(int horse) {
            int all = 0;
            for (int smith = 0; smith < smiths; smith++) {
                all += lacked[cellOf(smith, horse)];
            }
            return all;
        }

        int greatest() {
            int most = 0;
            for (int smith = 0; smith < smiths; smith++) {
                most = Math.max(most, ofSmith(smith));
            }
            for (int horse = 0; horse < horses; horse++) {
                most = Math.max(most, ofHorse(horse));
            }
            return most;
        }

        int together() {
            int all = 0;
            for (int smith = 0; smith < smiths; smith++) {
                all += ofSmith(smith);
            }
            return all;
        }

        boolean canHandOver(int smith, int other) {
            for (int horse = 0; horse < horses; horse++) {
                if (lacked[cellOf(smith, horse)] + lacked[cellOf(other, horse)] > MOST_QUARTERS) {
                    return false;
                }
            }
            return true;
        }

        int handOver(int smith, int other) {
            int handed = 0;
            for (int horse = 0; horse < horses; horse++) {
                int cell = cellOf(smith, horse);
                handed += lacked[cell];
                lacked[cellOf(other, horse)] += lacked[cell];
                lacked[cell] = 0;
            }
            return handed;
        }
    }

    /** Slots that each keep what was lacked, and the quarter. */
    private static final class Shelf {
        private final int slots;
        private final int[] lacked;
        private final int[] quarters;

        Shelf(int count) {
            slots = Math.max(count, 1);
            lacked = new int[slots * MOST_PAIRS];
            quarters = new int[slots];
            empty();
        }

        void empty() {
            Arrays.fill(quarters, NONE);
        }

        void keep(int slot, Ledger ledger) {
            if (slot >= 0 && slot < slots) {
                System.arraycopy(ledger.lacked, 0, lacked, slot * MOST_PAIRS, MOST_PAIRS);
                quarters[slot] = ledger.quarter;
            }
        }

        boolean fetch(int slot, Ledger ledger) {
            if (slot < 0 || slot >= slots || quarters[slot] == NONE) {
                return false;
            }
            System.arraycopy(lacked, slot * MOST_PAIRS, ledger.lacked, 0, MOST_PAIRS);
            ledger.quarter = quarters[slot];
            return true;
        }
    }

    /** The acts that can be undone and redone: a ring of states, one more than acts. */
    private static final class Acts {
        private static final int MOST_ACTS = 40;
        private static final int STATES = MOST_ACTS + 1;

        private final Shelf states = new Shelf(STATES);
        private int oldest = 0;
        int done = 0;
        int undone = 0;

        void forget(Ledger ledger) {
            oldest = 0;
            done = 0;
            undone = 0;
            states.keep(0, ledger);
        }

        void add(Ledger ledger) {
            undone = 0;
            if (done < MOST_ACTS) {
                done++;
            } else {
                oldest = (oldest + 1) % STATES;
            }
            states.keep((oldest + done) % STATES, ledger);
        }

        boolean takeBack(Ledger ledger) {
            if (done == 0) {
                return false;
            }
            done--;
            undone++;
            return states.fetch((oldest + done) % STATES, ledger);
        }

        boolean doAgain(Ledger ledger) {
            if (undone == 0) {
                return false;
            }
            done++;
            undone--;
            return states.fetch((oldest + done) % STATES, ledger);
        }
    }

    /** Gives seekers seats of their own: a matching that can be mended by one seeker at a time. */
    private static final class Cover {
        private static final int MOST = MOST_HORSES;

        final int[] edges = new int[MOST];
        final int[] seatOf = new int[MOST];
        final int[] holder = new int[MOST];
        private final int[] from = new int[MOST];
        private final int[] queue = new int[MOST + 1];

        void clear() {
            Arrays.fill(seatOf, NONE);
            Arrays.fill(holder, NONE);
        }

        void release(int seeker) {
            int seat = seatOf[seeker];
            if (seat != NONE) {
                holder[seat] = NONE;
                seatOf[seeker] = NONE;
            }
        }

        void assign(int seeker, int seat) {
            seatOf[seeker] = seat;
            holder[seat] = seeker;
        }

        /** Finds an open seat for a seeker who has none, others changing seats for it; all stays if there is none. */
        boolean settle(int seeker, int open) {
            int seen = 0;
            int queued = 1;
            queue[0] = seeker;
            for (int at = 0; at < queued && at < queue.length; at++) {
                int one = queue[at];
                int fresh = edges[one] & open & ~seen;
                seen |= fresh;
                for (; fresh != 0; fresh &= fresh - 1) {
                    int seat = lowest(fresh);
                    from[seat] = one;
                    if (holder[seat] == NONE) {
                        changeSeats(seat);
                        return true;
                    }
                    if (queued < queue.length) {
                        queue[queued] = holder[seat];
                        queued++;
                    }
                }
            }
            return false;
        }

        private void changeSeats(int free) {
            int seat = free;
            for (int steps = 0; steps < MOST && seat != NONE; steps++) {
                int one = from[seat];
                int before = seatOf[one];
                assign(one, seat);
                seat = before;
            }
        }
    }

    /** A day on paper: finds its rounds one behind another, and lets them pass. */
    private static final class Day {
        final int[] left = new int[MOST_PAIRS];
        final int[] stands = new int[MOST_SMITHS];
        int span = 0;
        int length = 0;
        // The rounds from now on stay listed here till what is lacked changes, whatever day is opened meanwhile.
        final int[] listedSpans = new int[MOST_ROUNDS];
        final int[] listedStands = new int[MOST_ROUNDS * MOST_SMITHS];
        int listed = 0;
        boolean listIsGood = false;
        private final int[] smithSums = new int[MOST_SMITHS];
        private final int[] horseSums = new int[MOST_HORSES];
        private final Cover bySmiths = new Cover();
        private final Cover byHorses = new Cover();
        private int smiths = 0;
        private int horses = 0;
        private int openHorses = 0;

        void open(int[] lacked, int smithCount, int horseCount) {
            System.arraycopy(lacked, 0, left, 0, MOST_PAIRS);
            smiths = smithCount;
            horses = horseCount;
            Arrays.fill(smithSums, 0);
            Arrays.fill(horseSums, 0);
            Arrays.fill(bySmiths.edges, 0);
            Arrays.fill(byHorses.edges, 0);
            for (int smith = 0; smith < smiths; smith++) {
                for (int horse = 0; horse < horses; horse++) {
                    int quarters = left[cellOf(smith, horse)];
                    if (quarters > 0) {
                        smithSums[smith] += quarters;
                        horseSums[horse] += quarters;
                        bySmiths.edges[smith] |= 1 << horse;
                        byHorses.edges[horse] |= 1 << smith;
                    }
                }
            }
            length = Math.max(greatestOf(smithSums), greatestOf(horseSums));
        }

        /** The first round of what is left stands then in stands and span; false if nothing is left. */
        boolean findRound() {
            if (length <= 0) {
                return false;
            }
            openHorses = (1 << horses) - 1;
            // Whoever is busy can be covered by one matching if each side's busy ones can by their own.
            bySmiths.clear();
            byHorses.clear();
            for (int smith = 0; smith < smiths; smith++) {
                if (smithSums[smith] == length) {
                    bySmiths.settle(smith, openHorses);
                }
            }
            int allSmiths = (1 << smiths) - 1;
            for (int horse = 0; horse < horses; horse++) {
                if (horseSums[horse] == length) {
                    byHorses.settle(horse, allSmiths);
                }
            }
            span = length;
            for (int smith = 0; smith < smiths; smith++) {
                int horse = choose(smith);
                stands[smith] = horse;
                int most = horse == NONE ? length - smithSums[smith] : left[cellOf(smith, horse)];
                span = Math.min(span, most);
            }
            for (int rest = openHorses; rest != 0; rest &= rest - 1) {
                span = Math.min(span, length - horseSums[lowest(rest)]);
            }
            return true;
        }

        /** Lets a part of the found round pass, of no more quarters than it lasts. */
        void pass(int quarters) {
            for (int smith = 0; smith < smiths; smith++) {
                int horse = stands[smith];
                if (horse != NONE) {
                    int cell = cellOf(smith, horse);
                    left[cell] -= quarters;
                    smithSums[smith] -= quarters;
                    horseSums[horse] -= quarters;
                    if (left[cell] == 0) {
                        bySmiths.edges[smith] &= ~(1 << horse);
                        byHorses.edges[horse] &= ~(1 << smith);
                    }
                }
            }
            length -= quarters;
        }

        int goOn(int quarters) {
            int gone = 0;
            for (int i = 0; i < MOST_ROUNDS && gone < quarters && findRound(); i++) {
                int step = Math.min(span, quarters - gone);
                pass(step);
                gone += step;
            }
            return gone;
        }

        void list(Ledger ledger) {
            if (listIsGood) {
                return;
            }
            listIsGood = true;
            listed = 0;
            open(ledger.lacked, ledger.smiths, ledger.horses);
            while (listed < MOST_ROUNDS && findRound()) {
                listedSpans[listed] = span;
                System.arraycopy(stands, 0, listedStands, listed * MOST_SMITHS, MOST_SMITHS);
                pass(span);
                listed++;
            }
        }

        /** Wages of the listed rounds, the first of which begins in the told quarter. */
        int payListed(Yard yard, int quarter) {
            int all = 0;
            int from = quarter;
            for (int i = 0; i < listed; i++) {
                int until = from + listedSpans[i];
                int paid = listedSpans[i];
                if (yard.late != NONE && until > yard.late) {
                    paid += until - Math.max(from, yard.late);
                }
                for (int smith = 0; smith < yard.smiths; smith++) {
                    if (listedStands[i * MOST_SMITHS + smith] != NONE) {
                        all += yard.wageOf[smith] * paid;
                    }
                }
                from = until;
            }
            return all;
        }

        /** The least horse that a smith can have, so that the smiths behind him can still make a round. */
        private int choose(int smith) {
            bySmiths.release(smith);
            int bereft = byHorses.holder[smith];
            if (bereft != NONE) {
                byHorses.release(bereft);
            }
            int behind = (1 << smiths) - (2 << smith);
            for (int may = bySmiths.edges[smith] & openHorses; may != 0; may &= may - 1) {
                int horse = lowest(may);
                if (canSpare(horse, bereft, behind)) {
                    openHorses &= ~(1 << horse);
                    byHorses.release(horse);
                    return horse;
                }
            }
            if (bereft != NONE) {
                byHorses.settle(bereft, behind);
            }
            return NONE;
        }

        /** Whether the smiths behind can do without a horse, and cover the one that lost its smith. */
        private boolean canSpare(int horse, int bereft, int behind) {
            int holder = bySmiths.holder[horse];
            if (holder != NONE) {
                bySmiths.release(holder);
                if (!bySmiths.settle(holder, openHorses & ~(1 << horse))) {
                    bySmiths.assign(holder, horse);
                    return false;
                }
            }
            if (bereft == NONE || bereft == horse) {
                return true;
            }
            int seat = byHorses.seatOf[horse];
            byHorses.release(horse);
            if (byHorses.settle(bereft, behind)) {
                return true;
            }
            if (seat != NONE) {
                byHorses.assign(horse, seat);
            }
            return false;
        }

        private static int greatestOf(int[] sums) {
            int most = 0;
            for (int one : sums) {
                most = Math.max(most, one);
            }
            return most;
        }
    }

    /**
     * Parts quarters over days. Each pair has its share, cut, in any case; which pairs have one more
     * is a flow from a source through smiths and horses to a drain and round again, within bounds.
     */
    private static final class Parting {
        private static final int SOURCE = MOST_SMITHS + MOST_HORSES;
        private static final int DRAIN = SOURCE + 1;
        private static final int NODES = DRAIN + 1;
        private static final int WHOLE = SOURCE;
        private static final int MOST_STEPS = MOST_PAIRS + 2;

        final int[] shares = new int[MOST_DAYS * MOST_PAIRS];
        int days = 0;
        private final int[] left = new int[MOST_PAIRS];
        private final int[] extra = new int[MOST_SMITHS];
        private final int[] loose = new int[MOST_SMITHS];
        // By node: what goes from the source to a smith, from a horse to the drain, and (WHOLE) round again.
        private final int[] flow = new int[NODES];
        private final int[] low = new int[NODES];
        private final int[] high = new int[NODES];
        private final int[] from = new int[NODES];
        private final int[] queue = new int[NODES];
        private int smiths = 0;
        private int horses = 0;

        void cutUp(int n, Ledger ledger) {
            if (days == n || n < 1 || n > MOST_DAYS) {
                return;
            }
            days = n;
            smiths = ledger.smiths;
            horses = ledger.horses;
            System.arraycopy(ledger.lacked, 0, left, 0, MOST_PAIRS);
            for (int day = 0; day < n; day++) {
                giveWhole(day, n - day);
                boundSums(day, n - day);
                raiseLows();
                lowerInOrder();
                giveExtra(day);
            }
        }

        private void giveExtra(int day) {
            for (int smith = 0; smith < smiths; smith++) {
                for (int rest = extra[smith]; rest != 0; rest &= rest - 1) {
                    shares[day * MOST_PAIRS + cellOf(smith, lowest(rest))]++;
                }
            }
            for (int cell = 0; cell < MOST_PAIRS; cell++) {
                left[cell] -= shares[day * MOST_PAIRS + cell];
            }
        }

        private void giveWhole(int day, int m) {
            for (int cell = 0; cell < MOST_PAIRS && m > 0; cell++) {
                shares[day * MOST_PAIRS + cell] = left[cell] / m;
            }
            for (int smith = 0; smith < smiths; smith++) {
                extra[smith] = 0;
                loose[smith] = 0;
                for (int horse = 0; horse < horses; horse++) {
                    int cell = cellOf(smith, horse);
                    if (shares[day * MOST_PAIRS + cell] * m < left[cell]) {
                        loose[smith] |= 1 << horse;
                    }
                }
            }
        }

        private void boundSums(int day, int m) {
            int all = 0;
            int allGiven = 0;
            for (int smith = 0; smith < smiths; smith++) {
                int sum = 0;
                int whole = 0;
                for (int horse = 0; horse < horses; horse++) {
                    sum += left[cellOf(smith, horse)];
                    whole += shares[day * MOST_PAIRS + cellOf(smith, horse)];
                }
                bound(smith, sum, whole, m);
                all += sum;
                allGiven += whole;
            }
            for (int horse = 0; horse < horses; horse++) {
                int sum = 0;
                int whole = 0;
                for (int smith = 0; smith < smiths; smith++) {
                    sum += left[cellOf(smith, horse)];
                    whole += shares[day * MOST_PAIRS + cellOf(smith, horse)];
                }
                bound(MOST_SMITHS + horse, sum, whole, m);
            }
            bound(WHOLE, all, allGiven, m);
        }

        /** An m-th of all is due, cut or up, less what is given in any case. */
        private void bound(int node, int all, int given, int m) {
            if (m > 0) {
                flow[node] = 0;
                low[node] = all / m - given;
                high[node] = (all + m - 1) / m - given;
            }
        }

        /** From no flow at all to one in which nothing is below its bound. */
        private void raiseLows() {
            for (int smith = 0; smith < smiths; smith++) {
                raise(smith, smith, SOURCE);
            }
            for (int horse = 0; horse < horses; horse++) {
                raise(MOST_SMITHS + horse, DRAIN, MOST_SMITHS + horse);
            }
            raise(WHOLE, SOURCE, DRAIN);
        }

        /** What goes one more way from the end of an edge back to its beginning lets it carry one more. */
        private void raise(int edge, int edgeEnd, int edgeBegin) {
            for (int steps = 0; steps < MOST_STEPS && flow[edge] < low[edge]; steps++) {
                if (!sendOne(edgeEnd, edgeBegin)) {
                    return;
                }
                flow[edge]++;
            }
        }

        /** Pair by pair: it has no more than its share, cut, if the others can be so; it is not touched again. */
        private void lowerInOrder() {
            for (int smith = 0; smith < smiths; smith++) {
                for (int may = loose[smith]; may != 0; may &= may - 1) {
                    int bit = may & -may;
                    loose[smith] &= ~bit;
                    if ((extra[smith] & bit) != 0 && sendOne(smith, MOST_SMITHS + lowest(may))) {
                        extra[smith] &= ~bit;
                    }
                }
            }
        }

        private boolean sendOne(int begin, int goal) {
            if (!findWay(begin, goal)) {
                return false;
            }
            int node = goal;
            for (int steps = 0; steps < NODES && node != begin; steps++) {
                step(from[node], node);
                node = from[node];
            }
            return true;
        }

        private boolean findWay(int begin, int goal) {
            int seen = 1 << begin;
            int queued = 1;
            queue[0] = begin;
            for (int at = 0; at < queued && at < NODES; at++) {
                int node = queue[at];
                int fresh = reach(node) & ~seen;
                seen |= fresh;
                for (; fresh != 0; fresh &= fresh - 1) {
                    int next = lowest(fresh);
                    from[next] = node;
                    if (next == goal) {
                        return true;
                    }
                    if (queued < NODES) {
                        queue[queued] = next;
                        queued++;
                    }
                }
            }
            return false;
        }

        /** The nodes to which one more can go from a node, or one less come from them. */
        private int reach(int node) {
            if (node < MOST_SMITHS) {
                int nodes = (loose[node] & ~extra[node]) << MOST_SMITHS;
                return flow[node] > low[node] ? nodes | 1 << SOURCE : nodes;
            }
            if (node < SOURCE) {
                return reachOfHorse(node - MOST_SMITHS);
            }
            return node == SOURCE ? reachOfSource() : reachOfDrain();
        }

        private int reachOfHorse(int horse) {
            int node = MOST_SMITHS + horse;
            int nodes = flow[node] < high[node] ? 1 << DRAIN : 0;
            for (int smith = 0; smith < smiths; smith++) {
                if ((loose[smith] & extra[smith] & 1 << horse) != 0) {
                    nodes |= 1 << smith;
                }
            }
            return nodes;
        }

        private int reachOfSource() {
            int nodes = flow[WHOLE] > low[WHOLE] ? 1 << DRAIN : 0;
            for (int smith = 0; smith < smiths; smith++) {
                if (flow[smith] < high[smith]) {
                    nodes |= 1 << smith;
                }
            }
            return nodes;
        }

        private int reachOfDrain() {
            int nodes = flow[WHOLE] < high[WHOLE] ? 1 << SOURCE : 0;
            for (int node = MOST_SMITHS; node < MOST_SMITHS + horses; node++) {
                if (flow[node] > low[node]) {
                    nodes |= 1 << node;
                }
            }
            return nodes;
        }

        private void step(int one, int next) {
            if (one < MOST_SMITHS && next < SOURCE) {
                extra[one] |= 1 << (next - MOST_SMITHS);
            } else if (one < SOURCE && next < MOST_SMITHS) {
                extra[next] &= ~(1 << (one - MOST_SMITHS));
            } else if (one < SOURCE) {
                flow[one] += next == DRAIN ? 1 : -1;
            } else if (next < SOURCE) {
                flow[next] += one == SOURCE ? 1 : -1;
            } else {
                flow[WHOLE] += next == SOURCE ? 1 : -1;
            }
        }
    }

    /** Rounds as somebody tells them, and what is to be said of them. */
    private static final class ToldRounds {
        private static final int MOST_TOLD = 12;
        private static final int MOST_IN_ONE = 10;

        private final int[] spans = new int[MOST_TOLD];
        private final int[] sizes = new int[MOST_TOLD];
        private final int[] cells = new int[MOST_TOLD * MOST_IN_ONE];
        private final int[] left = new int[MOST_PAIRS];
        int count = 0;
        int wrong = NONE;
        int lackedBehind = 0;
        int lasted = 0;

        int beginOne(int lasts) {
            if (count >= MOST_TOLD) {
                return NONE;
            }
            spans[count] = lasts;
            sizes[count] = 0;
            count++;
            return count - 1;
        }

        int addPair(int cell) {
            if (count == 0 || sizes[count - 1] >= MOST_IN_ONE) {
                return NONE;
            }
            int latest = count - 1;
            cells[latest * MOST_IN_ONE + sizes[latest]] = cell;
            sizes[latest]++;
            return sizes[latest];
        }

        void weigh(Ledger ledger) {
            System.arraycopy(ledger.lacked, 0, left, 0, MOST_PAIRS);
            wrong = NONE;
            lackedBehind = ledger.together();
            lasted = 0;
            for (int i = 0; i < count && wrong == NONE; i++) {
                if (canBe(i)) {
                    passOne(i);
                } else {
                    wrong = i;
                }
            }
        }

        private boolean canBe(int i) {
            int seenSmiths = 0;
            int seenHorses = 0;
            for (int at = 0; at < sizes[i]; at++) {
                int cell = cells[i * MOST_IN_ONE + at];
                int smith = 1 << cell / MOST_HORSES;
                int horse = 1 << cell % MOST_HORSES;
                if ((seenSmiths & smith) != 0 || (seenHorses & horse) != 0 || left[cell] < spans[i]) {
                    return false;
                }
                seenSmiths |= smith;
                seenHorses |= horse;
            }
            return true;
        }

        private void passOne(int i) {
            for (int at = 0; at < sizes[i]; at++) {
                left[cells[i * MOST_IN_ONE + at]] -= spans[i];
            }
            lackedBehind -= spans[i] * sizes[i];
            lasted += spans[i];
        }
    }

    /** Who was seen with whom, told and untold at which times. */
    private static final class Sights {
        private static final int MOST_SIGHTS = 20;

        private final int[] quarters = new int[MOST_SIGHTS];
        private final int[] smiths = new int[MOST_SIGHTS];
        private final int[] horses = new int[MOST_SIGHTS];
        private final int[] toldAt = new int[MOST_SIGHTS];
        private final int[] untoldAt = new int[MOST_SIGHTS];
        final int[] trial = new int[MOST_PAIRS];
        // Of each pair the latest answer, and by which sights it was given: sights themselves never change.
        final int[] askedOf = new int[MOST_PAIRS];
        final long[] answers = new long[MOST_PAIRS];
        int count = 0;

        Sights() {
            Arrays.fill(askedOf, NONE);
        }

        void forget() {
            count = 0;
            Arrays.fill(askedOf, NONE);
        }

        int tell(int quarter, int smith, int horse, int time) {
            if (count >= MOST_SIGHTS) {
                return NONE;
            }
            quarters[count] = quarter;
            smiths[count] = smith;
            horses[count] = horse;
            toldAt[count] = time;
            untoldAt[count] = NONE;
            count++;
            return count - 1;
        }

        boolean takeBack(int sight, int time) {
            if (sight < 0 || sight >= count || untoldAt[sight] != NONE) {
                return false;
            }
            untoldAt[sight] = time;
            return true;
        }

        int countingAt(int k) {
            int bits = 0;
            for (int i = 0; i < count; i++) {
                boolean untold = untoldAt[i] != NONE && untoldAt[i] <= k;
                if (toldAt[i] <= k && !untold) {
                    bits |= 1 << i;
                }
            }
            return bits;
        }

        /** Whether in a day that was just opened all who count stand as they were seen. */
        boolean areSo(int counting, Day day) {
            int reach = NONE;
            for (int rest = counting; rest != 0; rest &= rest - 1) {
                int i = lowest(rest);
                if (quarters[i] < day.length) {
                    reach = Math.max(reach, quarters[i]);
                } else if (horses[i] != NONE) {
                    return false;
                }
            }
            int from = 0;
            for (int i = 0; i < MOST_ROUNDS && from <= reach && day.findRound(); i++) {
                int until = from + day.span;
                if (!standSo(counting, from, until, day.stands)) {
                    return false;
                }
                day.pass(day.span);
                from = until;
            }
            return true;
        }

        private boolean standSo(int counting, int from, int until, int[] stands) {
            for (int rest = counting; rest != 0; rest &= rest - 1) {
                int i = lowest(rest);
                boolean within = quarters[i] >= from && quarters[i] < until;
                if (within && stands[smiths[i]] != horses[i]) {
                    return false;
                }
            }
            return true;
        }
    }
}
