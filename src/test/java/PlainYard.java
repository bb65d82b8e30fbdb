import java.util.ArrayList;
import java.util.Arrays;
import java.util.HashMap;
import java.util.HashSet;
import java.util.LinkedHashMap;
import java.util.List;
import java.util.Map;
import java.util.Set;

/**
 * The document once more, as plainly as it can be written and by other ways than ShoeingDay goes:
 * quarter by quarter, set by set, a flow from nothing for each question. Tests ask both the same.
 */
final class PlainYard {
    private static final Set<String> OWN_WORDS =
            new HashSet<>(Arrays.asList("smith", "master", "wage", "horse", "hours", "lends", "late"));

    private static final class Fault extends RuntimeException {
        final int kind;
        final int place;

        Fault(int kind, int place) {
            this.kind = kind;
            this.place = place;
        }
    }

    private static final class State {
        final int[][] lacked;
        final int quarter;

        State(int[][] lacked, int quarter) {
            this.lacked = copyOf(lacked);
            this.quarter = quarter;
        }
    }

    private StringBuilder tape = new StringBuilder();
    private int faultKind = 0;
    private int faultPlace = -1;
    private List<String> smiths = new ArrayList<>();
    private List<String> horses = new ArrayList<>();
    private List<Integer> wages = new ArrayList<>();
    private Set<String> masters = new HashSet<>();
    private Set<String> lends = new HashSet<>();
    private int late = -1;
    private int[][] told = new int[0][0];
    private int[][] lacked = new int[0][0];
    private int quarter = 0;
    private final List<State> before = new ArrayList<>();
    private final List<State> after = new ArrayList<>();
    private final List<int[]> toldRounds = new ArrayList<>();
    private final List<List<int[]>> toldPairs = new ArrayList<>();
    private final List<int[]> sights = new ArrayList<>();
    private int time = 0;
    private State[] boxes = new State[3];

    static int[][] copyOf(int[][] rows) {
        int[][] copy = new int[rows.length][];
        for (int i = 0; i < rows.length; i++) {
            copy[i] = rows[i].clone();
        }
        return copy;
    }

    int feed(int a, int b, int c, int d, int e) {
        if (tape.length() + 20 > 1700) {
            return -1;
        }
        for (int four : new int[] {a, b, c, d, e}) {
            tape.append((char) (four >>> 24)).append((char) (four >>> 16 & 255));
            tape.append((char) (four >>> 8 & 255)).append((char) (four & 255));
        }
        return tape.length();
    }

    int end(int n) {
        if (n < 0 || n > tape.length()) {
            return -1;
        }
        tape.setLength(n);
        return n;
    }

    // ---- the text

    private String text;
    private int at;
    private int start;
    private String token;

    private void next() {
        while (at < text.length() && (text.charAt(at) == ' ' || text.charAt(at) == '\n')) {
            at++;
        }
        start = at;
        if (at == text.length()) {
            token = "";
            return;
        }
        String rest = text.substring(at);
        String word = rest.replaceFirst("(?s)^([a-z]*).*$", "$1");
        String number = rest.replaceFirst("(?s)^([0-9]*).*$", "$1");
        if (!word.isEmpty()) {
            token = word.length() <= 8 ? word : null;
        } else if (!number.isEmpty()) {
            boolean letter = rest.substring(number.length()).matches("(?s)[a-z].*");
            token = number.length() <= 4 && !letter ? number : null;
        } else {
            token = rest.charAt(0) == ';' ? ";" : null;
        }
        at += token == null ? 1 : token.length();
    }

    private String want(String pattern) {
        next();
        if (token == null || token.isEmpty()) {
            throw new Fault(1, start);
        }
        if (!token.matches(pattern)) {
            throw new Fault(2, start);
        }
        return token;
    }

    private String wantName() {
        String name = want("[a-z]+");
        if (OWN_WORDS.contains(name)) {
            throw new Fault(2, start);
        }
        return name;
    }

    private int wantNumber(int most) {
        int number = Integer.parseInt(want("[0-9]+"));
        if (number > most) {
            throw new Fault(4, start);
        }
        return number;
    }

    private void must(boolean holds, int kind) {
        if (!holds) {
            throw new Fault(kind, start);
        }
    }

    int yard() {
        List<String> newSmiths = new ArrayList<>();
        List<String> newHorses = new ArrayList<>();
        List<Integer> newWages = new ArrayList<>();
        Set<String> newMasters = new HashSet<>();
        Set<String> newLends = new HashSet<>();
        Map<String, Integer> newHours = new LinkedHashMap<>();
        int newLate = -1;
        text = tape.toString();
        at = 0;
        faultKind = 0;
        faultPlace = -1;
        try {
            while (!text.substring(at).matches("[ \n]*")) {
                String first = want("smith|horse|hours|lends|late");
                if (first.equals("smith")) {
                    must(newSmiths.size() < 8, 2);
                    String name = wantName();
                    must(!newSmiths.contains(name), 3);
                    if (want("master|wage").equals("master")) {
                        newMasters.add(name);
                        want("wage");
                    }
                    newWages.add(wantNumber(99));
                    newSmiths.add(name);
                } else if (first.equals("horse")) {
                    must(newHorses.size() < 10, 2);
                    String name = wantName();
                    must(!newHorses.contains(name), 3);
                    newHorses.add(name);
                } else if (first.equals("hours")) {
                    must(newHours.size() < 60, 2);
                    String smith = wantName();
                    must(newSmiths.contains(smith), 5);
                    String horse = wantName();
                    must(newHorses.contains(horse), 5);
                    must(!newHours.containsKey(smith + " " + horse), 3);
                    newHours.put(smith + " " + horse, wantNumber(99));
                } else if (first.equals("lends")) {
                    must(newLends.size() < 20, 2);
                    String one = wantName();
                    must(newSmiths.contains(one), 5);
                    must(newMasters.contains(one), 6);
                    String two = wantName();
                    must(newSmiths.contains(two), 5);
                    must(newMasters.contains(two), 6);
                    must(!one.equals(two) && !newLends.contains(one + " " + two), 3);
                    newLends.add(one + " " + two);
                } else {
                    must(newLate < 0, 2);
                    newLate = wantNumber(9999);
                }
                want(";");
            }
        } catch (Fault fault) {
            faultKind = fault.kind;
            faultPlace = fault.place;
            return -1;
        }
        smiths = newSmiths;
        horses = newHorses;
        wages = newWages;
        masters = newMasters;
        lends = newLends;
        late = newLate;
        told = new int[smiths.size()][horses.size()];
        for (Map.Entry<String, Integer> line : newHours.entrySet()) {
            String[] names = line.getKey().split(" ");
            told[smiths.indexOf(names[0])][horses.indexOf(names[1])] = line.getValue();
        }
        tape.setLength(0);
        lacked = copyOf(told);
        quarter = 0;
        before.clear();
        after.clear();
        toldRounds.clear();
        toldPairs.clear();
        sights.clear();
        boxes = new State[3];
        return smiths.size();
    }

    int fault(int what) {
        return what == 0 ? faultKind : what == 1 ? faultPlace : -1;
    }

    // ---- sums and rounds

    private boolean smithIs(int smith) {
        return smith >= 0 && smith < smiths.size();
    }

    private boolean horseIs(int horse) {
        return horse >= 0 && horse < horses.size();
    }

    int lacks(int smith, int horse) {
        return smithIs(smith) && horseIs(horse) ? lacked[smith][horse] : -1;
    }

    private static int sumOf(int[][] rows, int one, boolean column) {
        int sum = 0;
        if (!column) {
            return Arrays.stream(rows[one]).sum();
        }
        for (int[] row : rows) {
            sum += row[one];
        }
        return sum;
    }

    private int leastOf(int[][] rows) {
        int most = 0;
        for (int s = 0; s < smiths.size(); s++) {
            most = Math.max(most, sumOf(rows, s, false));
        }
        for (int h = 0; h < horses.size(); h++) {
            most = Math.max(most, sumOf(rows, h, true));
        }
        return most;
    }

    private int busyOf(int[][] rows, boolean column) {
        int bits = 0;
        for (int i = 0; i < (column ? horses.size() : smiths.size()); i++) {
            if (sumOf(rows, i, column) == leastOf(rows)) {
                bits |= 1 << i;
            }
        }
        return bits;
    }

    int sum(int one, boolean column) {
        return (column ? horseIs(one) : smithIs(one)) ? sumOf(lacked, one, column) : -1;
    }

    int least() {
        return leastOf(lacked);
    }

    int busy(boolean column) {
        return busyOf(lacked, column);
    }

    /** The first of all rounds, tried in their order; sets of used horses that led nowhere are tried once. */
    private int[] firstRound(int[][] rows) {
        int[] round = new int[smiths.size()];
        boolean found = tryRound(rows, round, 0, 0, busyOf(rows, false), busyOf(rows, true), new HashSet<>());
        if (!found) {
            throw new IllegalStateException("no round");
        }
        return round;
    }

    private boolean tryRound(int[][] rows, int[] round, int s, int used, int busyS, int busyH, Set<Integer> vain) {
        if (s == round.length) {
            return (busyH & ~used) == 0;
        }
        if (vain.contains(s << 10 | used)) {
            return false;
        }
        for (int h = 0; h < horses.size(); h++) {
            if (rows[s][h] > 0 && (used >> h & 1) == 0) {
                round[s] = h;
                if (tryRound(rows, round, s + 1, used | 1 << h, busyS, busyH, vain)) {
                    return true;
                }
            }
        }
        round[s] = -1;
        if ((busyS >> s & 1) == 0 && tryRound(rows, round, s + 1, used, busyS, busyH, vain)) {
            return true;
        }
        vain.add(s << 10 | used);
        return false;
    }

    private int lastsOf(int[][] rows, int[] round) {
        int least = leastOf(rows);
        int lasts = Integer.MAX_VALUE;
        int used = 0;
        for (int s = 0; s < round.length; s++) {
            if (round[s] < 0) {
                lasts = Math.min(lasts, least - sumOf(rows, s, false));
            } else {
                lasts = Math.min(lasts, rows[s][round[s]]);
                used |= 1 << round[s];
            }
        }
        for (int h = 0; h < horses.size(); h++) {
            if ((used >> h & 1) == 0) {
                lasts = Math.min(lasts, least - sumOf(rows, h, true));
            }
        }
        return lasts;
    }

    private static void pass(int[][] rows, int[] round, int quarters) {
        for (int s = 0; s < round.length; s++) {
            if (round[s] >= 0) {
                rows[s][round[s]] -= quarters;
            }
        }
    }

    /** Each round with how long it lasts behind the smiths' horses. */
    private List<int[]> dayOf(int[][] from) {
        int[][] rows = copyOf(from);
        List<int[]> day = new ArrayList<>();
        while (leastOf(rows) > 0) {
            int[] round = firstRound(rows);
            int lasts = lastsOf(rows, round);
            pass(rows, round, lasts);
            int[] entry = Arrays.copyOf(round, round.length + 1);
            entry[round.length] = lasts;
            day.add(entry);
        }
        return day;
    }

    int rounds() {
        return dayOf(lacked).size();
    }

    int lasts(int i) {
        List<int[]> day = dayOf(lacked);
        return i >= 0 && i < day.size() ? day.get(i)[smiths.size()] : -1;
    }

    int with(int i, int smith) {
        List<int[]> day = dayOf(lacked);
        return i >= 0 && i < day.size() && smithIs(smith) ? day.get(i)[smith] : -1;
    }

    int wages() {
        int sum = 0;
        int q = quarter;
        for (int[] round : dayOf(lacked)) {
            for (int i = 0; i < round[smiths.size()]; i++, q++) {
                for (int s = 0; s < smiths.size(); s++) {
                    if (round[s] >= 0) {
                        sum += wages.get(s) * (late >= 0 && q >= late ? 2 : 1);
                    }
                }
            }
        }
        return sum;
    }

    // ---- parted

    /** Whether flows within bounds can go round: a flow from nothing, unit by unit, over a matrix. */
    private static boolean canFlow(int[][] low, int[][] high) {
        int n = low.length;
        int[][] room = new int[n + 2][n + 2];
        int due = 0;
        for (int u = 0; u < n; u++) {
            for (int v = 0; v < n; v++) {
                if (low[u][v] > high[u][v]) {
                    return false;
                }
                room[u][v] += high[u][v] - low[u][v];
                room[n][v] += low[u][v];
                room[u][n + 1] += low[u][v];
                due += low[u][v];
            }
        }
        return maxFlow(room, n, n + 1) == due;
    }

    private static int maxFlow(int[][] room, int source, int sink) {
        int n = room.length;
        int flow = 0;
        while (true) {
            int[] from = new int[n];
            Arrays.fill(from, -1);
            from[source] = source;
            List<Integer> queue = new ArrayList<>();
            queue.add(source);
            for (int i = 0; i < queue.size() && from[sink] < 0; i++) {
                for (int v = 0; v < n; v++) {
                    if (from[v] < 0 && room[queue.get(i)][v] > 0) {
                        from[v] = queue.get(i);
                        queue.add(v);
                    }
                }
            }
            if (from[sink] < 0) {
                return flow;
            }
            int step = Integer.MAX_VALUE;
            for (int v = sink; v != source; v = from[v]) {
                step = Math.min(step, room[from[v]][v]);
            }
            for (int v = sink; v != source; v = from[v]) {
                room[from[v]][v] -= step;
                room[v][from[v]] += step;
            }
            flow += step;
        }
    }

    private int[][] firstShare(int[][] left, int m) {
        int ns = smiths.size();
        int nh = horses.size();
        int n = ns + nh + 2;
        int source = n - 2;
        int sink = n - 1;
        int[][] low = new int[n][n];
        int[][] high = new int[n][n];
        int all = 0;
        for (int s = 0; s < ns; s++) {
            int sum = sumOf(left, s, false);
            all += sum;
            low[source][s] = sum / m;
            high[source][s] = (sum + m - 1) / m;
            for (int h = 0; h < nh; h++) {
                low[s][ns + h] = left[s][h] / m;
                high[s][ns + h] = (left[s][h] + m - 1) / m;
            }
        }
        for (int h = 0; h < nh; h++) {
            int sum = sumOf(left, h, true);
            low[ns + h][sink] = sum / m;
            high[ns + h][sink] = (sum + m - 1) / m;
        }
        low[sink][source] = all / m;
        high[sink][source] = (all + m - 1) / m;
        int[][] share = new int[ns][nh];
        for (int s = 0; s < ns; s++) {
            for (int h = 0; h < nh; h++) {
                int up = high[s][ns + h];
                high[s][ns + h] = low[s][ns + h];
                if (!canFlow(low, high)) {
                    high[s][ns + h] = up;
                    low[s][ns + h] = up;
                }
                share[s][h] = low[s][ns + h];
            }
        }
        if (!canFlow(low, high)) {
            throw new IllegalStateException("no share");
        }
        return share;
    }

    private final Map<String, int[][][]> partedBefore = new HashMap<>();

    int parted(int n, int day, int smith, int horse) {
        if (n < 1 || n > 9 || day < 0 || day >= n || !smithIs(smith) || !horseIs(horse)) {
            return -1;
        }
        String key = n + Arrays.deepToString(lacked);
        int[][][] days = partedBefore.get(key);
        if (days == null) {
            days = new int[n][][];
            int[][] left = copyOf(lacked);
            for (int d = 0; d < n; d++) {
                days[d] = firstShare(left, n - d);
                for (int s = 0; s < left.length; s++) {
                    for (int h = 0; h < left[s].length; h++) {
                        left[s][h] -= days[d][s][h];
                    }
                }
            }
            partedBefore.put(key, days);
        }
        return days[day][smith][horse];
    }

    // ---- even

    int even() {
        int ns = smiths.size();
        int all = 0;
        for (int s = 0; s < ns; s++) {
            all += sumOf(lacked, s, false);
        }
        for (int most = 0; ; most++) {
            int[][] room = new int[2 * ns + 2][2 * ns + 2];
            for (int s = 0; s < ns; s++) {
                room[2 * ns][s] = sumOf(lacked, s, false);
                room[ns + s][2 * ns + 1] = most;
                for (int t = 0; t < ns; t++) {
                    if (s == t || lends.contains(smiths.get(s) + " " + smiths.get(t))) {
                        room[s][ns + t] = 1000000;
                    }
                }
            }
            if (maxFlow(room, 2 * ns, 2 * ns + 1) == all) {
                return most;
            }
        }
    }

    int proof() {
        int even = even();
        if (even == 0) {
            return 0;
        }
        for (int set = 1; set < 1 << smiths.size(); set++) {
            int work = 0;
            for (int s = 0; s < smiths.size(); s++) {
                boolean only = (set >> s & 1) != 0;
                for (int t = 0; t < smiths.size(); t++) {
                    if (lends.contains(smiths.get(s) + " " + smiths.get(t)) && (set >> t & 1) == 0) {
                        only = false;
                    }
                }
                work += only ? sumOf(lacked, s, false) : 0;
            }
            int heads = Integer.bitCount(set);
            if ((work + heads - 1) / heads == even) {
                return set;
            }
        }
        throw new IllegalStateException("no proof");
    }

    // ---- in earnest

    private void act(State was) {
        before.add(was);
        after.clear();
        if (before.size() > 40) {
            before.remove(0);
        }
    }

    int run(int quarters) {
        if (quarters < 1 || quarters > 999) {
            return -1;
        }
        State was = new State(lacked, quarter);
        int gone = 0;
        while (gone < quarters && leastOf(lacked) > 0) {
            pass(lacked, firstRound(lacked), 1);
            gone++;
        }
        quarter += gone;
        act(was);
        return gone;
    }

    int more(int smith, int horse, int by) {
        if (!smithIs(smith) || !horseIs(horse) || by < -99 || by > 99) {
            return -1;
        }
        int then = lacked[smith][horse] + by;
        if (then < 0 || then > 99) {
            return -1;
        }
        act(new State(lacked, quarter));
        lacked[smith][horse] = then;
        return then;
    }

    int breaks(int smith, int other) {
        if (!smithIs(smith) || !smithIs(other) || smith == other) {
            return -1;
        }
        for (int h = 0; h < horses.size(); h++) {
            if (lacked[smith][h] + lacked[other][h] > 99) {
                return -1;
            }
        }
        act(new State(lacked, quarter));
        int handed = sumOf(lacked, smith, false);
        for (int h = 0; h < horses.size(); h++) {
            lacked[other][h] += lacked[smith][h];
            lacked[smith][h] = 0;
        }
        return handed;
    }

    private void goTo(State state) {
        lacked = copyOf(state.lacked);
        quarter = state.quarter;
    }

    boolean undo() {
        if (before.isEmpty()) {
            return false;
        }
        after.add(new State(lacked, quarter));
        goTo(before.remove(before.size() - 1));
        return true;
    }

    boolean redo() {
        if (after.isEmpty()) {
            return false;
        }
        before.add(new State(lacked, quarter));
        goTo(after.remove(after.size() - 1));
        return true;
    }

    // ---- told rounds

    int round(int lasts) {
        if (lasts < 1 || lasts > 99 || toldRounds.size() == 12) {
            return -1;
        }
        toldRounds.add(new int[] {lasts});
        toldPairs.add(new ArrayList<>());
        return toldRounds.size() - 1;
    }

    int pair(int smith, int horse) {
        if (!smithIs(smith) || !horseIs(horse) || toldRounds.isEmpty()) {
            return -1;
        }
        List<int[]> pairs = toldPairs.get(toldPairs.size() - 1);
        if (pairs.size() == 10) {
            return -1;
        }
        pairs.add(new int[] {smith, horse});
        return pairs.size();
    }

    int hush() {
        int were = toldRounds.size();
        toldRounds.clear();
        toldPairs.clear();
        return were;
    }

    int judge(int what) {
        int[][] rows = copyOf(lacked);
        int lasted = 0;
        int wrong = -1;
        for (int i = 0; i < toldRounds.size() && wrong < 0; i++) {
            int lasts = toldRounds.get(i)[0];
            Set<String> seen = new HashSet<>();
            int[][] then = copyOf(rows);
            boolean good = true;
            for (int[] pair : toldPairs.get(i)) {
                good &= seen.add("s" + pair[0]) & seen.add("h" + pair[1]) & rows[pair[0]][pair[1]] >= lasts;
                then[pair[0]][pair[1]] -= lasts;
            }
            if (good) {
                rows = then;
                lasted += lasts;
            } else {
                wrong = i;
            }
        }
        int together = 0;
        for (int[] row : rows) {
            together += Arrays.stream(row).sum();
        }
        return what == 0 ? wrong : what == 1 ? together : what == 2 ? lasted : -1;
    }

    // ---- sights

    int sight(int q, int smith, int horse) {
        if (q < 0 || q > 999 || !smithIs(smith) || horse != -1 && !horseIs(horse) || sights.size() == 20) {
            return -1;
        }
        sights.add(new int[] {q, smith, horse, time, Integer.MAX_VALUE});
        return sights.size() - 1;
    }

    boolean untell(int sight) {
        if (sight < 0 || sight >= sights.size() || sights.get(sight)[4] != Integer.MAX_VALUE) {
            return false;
        }
        sights.get(sight)[4] = time;
        return true;
    }

    int later(int by) {
        if (by < 0 || by > 1000 || time + by > 100000) {
            return -1;
        }
        time += by;
        return time;
    }

    long fits(int smith, int horse, int k) {
        if (!smithIs(smith) || !horseIs(horse)) {
            return -1;
        }
        long bits = 0;
        for (int hours = 0; hours <= 40; hours++) {
            int[][] rows = copyOf(told);
            rows[smith][horse] = hours;
            List<int[]> quarters = new ArrayList<>();
            for (int[] round : dayOf(rows)) {
                for (int i = 0; i < round[smiths.size()]; i++) {
                    quarters.add(round);
                }
            }
            boolean so = true;
            for (int[] sight : sights) {
                if (sight[3] <= k && (sight[4] == Integer.MAX_VALUE || sight[4] > k)) {
                    int stood = sight[0] < quarters.size() ? quarters.get(sight[0])[sight[1]] : -1;
                    so &= stood == sight[2];
                }
            }
            bits |= so ? 1L << hours : 0;
        }
        return bits;
    }

    int image(int box) {
        if (box < 0 || box > 2) {
            return -1;
        }
        boxes[box] = new State(lacked, quarter);
        return quarter;
    }

    int back(int box) {
        if (box < 0 || box > 2 || boxes[box] == null) {
            return -1;
        }
        goTo(boxes[box]);
        before.clear();
        after.clear();
        return quarter;
    }

    int about(int what) {
        int together = 0;
        for (int[] row : lacked) {
            together += Arrays.stream(row).sum();
        }
        int[] answers = {smiths.size(), horses.size(), quarter, together, before.size(), after.size(),
            toldRounds.size(), sights.size(), time, tape.length(), late};
        return what >= 0 && what < answers.length ? answers[what] : -1;
    }
}
