import java.util.ArrayList;
import java.util.Arrays;
import java.util.Comparator;
import java.util.HashMap;
import java.util.HashSet;
import java.util.List;
import java.util.Map;
import java.util.Set;
import java.util.TreeMap;
import java.util.regex.Matcher;
import java.util.regex.Pattern;

/**
 * The document once more, in the plainest way and with the Java library: day by day, row by row, nothing kept that
 * can be worked out. AgainstOracleTest holds ChantryRolls against it. Its methods have the names of the face.
 */
final class Oracle {
    private static final int NONE = Checks.NONE;
    private static final int BAD = Checks.BAD;
    private static final int STATE = Checks.STATE;
    private static final int FULL = Checks.FULL;
    private static final List<String> TERMS =
            List.of("soul", "altar", "priest", "each", "from", "till", "house", "pays", "bread", "candle");
    private static final int[] MOST = {99, 3, 7, 360, 9999, 9999, 5, 100, 99, 99};

    private record Promise(boolean obit, int soul, int altar, int priest, int each, int from, int till, int house,
            int pays, int bread, int candle) {
    }

    private record Line(int number, int promise, int day, int hour) {
    }

    private static final class Pair {
        private int a;
        private int b;
        private int from;
        private Integer parted = null;
    }

    private final int[][] sheets = new int[8][];
    private final int[] lanes = new int[8];
    private final StringBuilder tape = new StringBuilder();
    private int latestFault = 0;
    private List<Promise> promises = new ArrayList<>();
    private final List<int[]> feasts = new ArrayList<>();
    private final int[] vows = {1, 1, 1, 1, 1, 1, 1, 1};
    private final List<int[]> sick = new ArrayList<>();
    private final List<Line> lines = new ArrayList<>();
    private final List<Pair> pairs = new ArrayList<>();
    private final int[][] houses = new int[6][2];
    private final List<int[]> repairs = new ArrayList<>();
    private final List<int[]> empties = new ArrayList<>();
    private final int[] prices = {100, 1, 1};
    private final Map<Integer, int[]> vacancies = new HashMap<>();
    private final List<int[]> acts = new ArrayList<>();
    private final List<int[]> bids = new ArrayList<>();
    private int theDay = 0;
    private List<Integer> trace = new ArrayList<>();
    private int status = 0;

    private static boolean in(int v, int least, int most) {
        return least <= v && v <= most;
    }

    private boolean there(int promise) {
        return in(promise, 0, promises.size() - 1);
    }

    private static boolean aDay(int day) {
        return in(day, 0, 9999);
    }

    private int finding(int number) {
        status = number;
        return -1000010 - number;
    }

    private int fine(int answer) {
        status = 0;
        return answer;
    }

    // ---- sheets

    int sheet(int sheet, int lane, int n) {
        if (!in(sheet, 0, 7) || !in(lane, 0, 2) || n > 60) {
            return BAD;
        }
        if (n < 0) {
            return finding(4);
        }
        sheets[sheet] = new int[n];
        lanes[sheet] = lane;
        return fine(n);
    }

    int set(int sheet, int i, int v) {
        if (!in(sheet, 0, 7)) {
            return BAD;
        }
        if (sheets[sheet] == null) {
            return finding(1);
        }
        if (!in(i, 0, sheets[sheet].length - 1)) {
            return finding(2);
        }
        int bits = 8 << lanes[sheet];
        sheets[sheet][i] = v << 32 - bits >> 32 - bits;
        return fine(sheets[sheet][i]);
    }

    int copy(int a, int i, int b, int j, int n) {
        if (!in(a, 0, 7) || !in(b, 0, 7)) {
            return BAD;
        }
        if (sheets[a] == null || sheets[b] == null) {
            return finding(1);
        }
        if (lanes[a] != lanes[b]) {
            return finding(5);
        }
        if (i < 0 || j < 0 || n < 0 || (long) i + n > sheets[a].length || (long) j + n > sheets[b].length) {
            return finding(2);
        }
        int[] ahead = sheets[a].clone();
        for (int k = 0; k < n; k++) {
            sheets[b][j + k] = ahead[i + k];
        }
        return fine(n);
    }

    int drop(int sheet) {
        if (!in(sheet, 0, 7)) {
            return BAD;
        }
        if (sheets[sheet] == null) {
            return finding(1);
        }
        int had = sheets[sheet].length;
        sheets[sheet] = null;
        return fine(had);
    }

    // ---- deeds, feasts

    int feed(long w, int n) {
        if (!in(n, 1, 8)) {
            return BAD;
        }
        if (tape.length() + n > 500) {
            return FULL;
        }
        for (int k = n - 1; k >= 0; k--) {
            tape.append((char) (w >>> 8 * k & 255));
        }
        return tape.length();
    }

    int deeds() {
        String text = tape.toString();
        tape.setLength(0);
        List<String> tokens = new ArrayList<>();
        List<Integer> places = new ArrayList<>();
        Matcher m = Pattern.compile("[a-z]+|[0-9]+|[^ \n]", Pattern.DOTALL).matcher(text);
        while (m.find()) {
            tokens.add(m.group());
            places.add(m.start());
        }
        tokens.add("");
        places.add(text.length());
        List<Promise> read = new ArrayList<>(promises);
        int at = 0;
        while (!tokens.get(at).isEmpty()) {
            boolean obit = tokens.get(at).equals("obit");
            if (!obit && !tokens.get(at).equals("mass")) {
                return fault(1, places.get(at));
            }
            if (read.size() == 12) {
                return fault(3, places.get(at));
            }
            at++;
            Map<String, Integer> told = new TreeMap<>();
            do {
                int term = TERMS.indexOf(tokens.get(at));
                if (term < 0) {
                    return fault(1, places.get(at));
                }
                String number = tokens.get(at + 1);
                if (!number.matches("[0-9]{1,5}")) {
                    return fault(1, places.get(at + 1));
                }
                int v = Integer.parseInt(number);
                if (v > MOST[term] || v == 0 && tokens.get(at).equals("each")) {
                    return fault(2, places.get(at + 1));
                }
                told.put(tokens.get(at), v);
                at += 2;
            } while (!tokens.get(at).equals(";"));
            at++;
            read.add(promise(obit, told));
        }
        promises = read;
        return promises.size();
    }

    private static Promise promise(boolean obit, Map<String, Integer> told) {
        return new Promise(obit, told.getOrDefault("soul", 0), told.getOrDefault("altar", 0),
                told.getOrDefault("priest", 0), told.getOrDefault("each", obit ? 360 : 1),
                told.getOrDefault("from", 0), told.getOrDefault("till", 9999), told.getOrDefault("house", 0),
                told.getOrDefault("pays", 0), told.getOrDefault("bread", 0), told.getOrDefault("candle", 0));
    }

    private int fault(int number, int place) {
        latestFault = number;
        return -1000100 - place;
    }

    int fault() {
        return latestFault;
    }

    int told(int promise, int what) {
        if (!there(promise) || !in(what, 0, 10)) {
            return BAD;
        }
        Promise p = promises.get(promise);
        return new int[] {p.obit ? 1 : 0, p.soul, p.altar, p.priest, p.each, p.from, p.till, p.house, p.pays, p.bread,
            p.candle}[what];
    }

    int feast(int day, int rank) {
        if (!aDay(day) || !in(rank, 1, 2)) {
            return BAD;
        }
        return tell(feasts, 30, day, rank);
    }

    private static int tell(List<int[]> list, int most, int... row) {
        if (list.size() == most) {
            return FULL;
        }
        list.add(row);
        return list.size();
    }

    private int rank(int day) {
        return feasts.stream().filter(f -> f[0] == day).mapToInt(f -> f[1]).max().orElse(0);
    }

    /** The days on which the wants of a promise fall, each where it was moved to. */
    private List<Integer> wants(Promise p) {
        List<Integer> days = new ArrayList<>();
        for (int day = p.from; day <= p.till; day += p.each) {
            int on = day;
            if (rank(day) == 1) {
                while (rank(on) > 0) {
                    on++;
                }
            }
            if (rank(day) < 2 && on <= 9999) {
                days.add(on);
            }
        }
        return days;
    }

    int count(int promise, int day, int what) {
        if (!there(promise) || !aDay(day) || !in(what, 0, 2)) {
            return BAD;
        }
        int wanted = (int) wants(promises.get(promise)).stream().filter(d -> d <= day).count();
        Set<Line> good = goodLines();
        int said = 0;
        for (Line line : good) {
            boolean counts = line.promise == promise || joinedTo(promise, line.day) == line.promise;
            said += line.day <= day && counts ? 1 : 0;
        }
        return what == 0 ? wanted : what == 1 ? said : Math.max(0, wanted - said);
    }

    // ---- lines

    int vow(int priest, int v) {
        if (!in(priest, 0, 7) || !in(v, 1, 3)) {
            return BAD;
        }
        int was = vows[priest];
        vows[priest] = v;
        return was;
    }

    int sick(int priest, int from, int to) {
        if (!in(priest, 0, 7) || !aDay(from) || !aDay(to) || from > to) {
            return BAD;
        }
        return tell(sick, 20, priest, from, to);
    }

    private boolean isSick(int priest, int day) {
        return sick.stream().anyMatch(s -> s[0] == priest && in(day, s[1], s[2]));
    }

    int say(int promise, int day, int hour) {
        if (!there(promise) || !aDay(day) || !in(hour, 0, 4)) {
            return BAD;
        }
        if (lines.size() == 60) {
            return FULL;
        }
        lines.add(new Line(lines.size(), promise, day, hour));
        return lines.size() - 1;
    }

    int lines(int sheet, int i, int n) {
        if (!in(sheet, 0, 7) || !in(n, 1, 20)) {
            return BAD;
        }
        if (sheets[sheet] == null) {
            return finding(1);
        }
        if (i < 0 || (long) i + 3 * n > sheets[sheet].length) {
            return finding(2);
        }
        int came = 0;
        for (int k = 0; k < n; k++) {
            int[] s = sheets[sheet];
            came += say(s[i + 3 * k], s[i + 3 * k + 1], s[i + 3 * k + 2]) >= 0 ? 1 : 0;
        }
        return fine(came);
    }

    private Set<Line> goodLines() {
        List<Line> sorted = new ArrayList<>(lines);
        sorted.sort(Comparator.comparingInt(Line::day).thenComparingInt(Line::hour).thenComparingInt(Line::number));
        Set<Line> good = new HashSet<>();
        for (Line line : sorted) {
            Promise p = promises.get(line.promise);
            boolean free = good.stream().noneMatch(g -> g.day == line.day && g.hour == line.hour
                    && (promises.get(g.promise).altar == p.altar || promises.get(g.promise).priest == p.priest));
            long saidByHim = good.stream().filter(g -> g.day == line.day && promises.get(g.promise).priest == p.priest)
                    .count();
            if (line.day >= p.from && line.day <= p.till && !ended(line.promise, line.day)
                    && !isSick(p.priest, line.day) && free && saidByHim < vows[p.priest]) {
                good.add(line);
            }
        }
        return good;
    }

    int good(int line) {
        if (!in(line, 0, lines.size() - 1)) {
            return BAD;
        }
        return goodLines().contains(lines.get(line)) ? 1 : 0;
    }

    int join(int a, int b, int day) {
        if (!there(a) || !there(b) || a == b || !aDay(day)) {
            return BAD;
        }
        for (Pair pair : pairs) {
            boolean concerned = pair.a == a || pair.a == b || pair.b == a || pair.b == b;
            if (concerned && !(pair.parted != null && pair.parted <= day)) {
                return STATE;
            }
        }
        if (pairs.size() == 10) {
            return FULL;
        }
        Pair pair = new Pair();
        pair.a = a;
        pair.b = b;
        pair.from = day;
        pairs.add(pair);
        return 1;
    }

    int split(int promise, int day) {
        if (!there(promise) || !aDay(day)) {
            return BAD;
        }
        for (Pair pair : pairs) {
            if ((pair.a == promise || pair.b == promise) && pair.parted == null && day > pair.from) {
                pair.parted = day;
                return 1;
            }
        }
        return STATE;
    }

    private int joinedTo(int promise, int day) {
        for (Pair pair : pairs) {
            if (pair.from <= day && (pair.parted == null || day < pair.parted)) {
                if (pair.a == promise) {
                    return pair.b;
                }
                if (pair.b == promise) {
                    return pair.a;
                }
            }
        }
        return NONE;
    }

    // ---- houses

    int house(int house, int what, int v) {
        if (!in(house, 0, 5) || !in(what, 0, 1) || !in(v, 0, what == 0 ? 10000 : 100)) {
            return BAD;
        }
        int was = houses[house][what];
        houses[house][what] = v;
        return was;
    }

    int repair(int house, int year, int sum) {
        if (!in(house, 0, 5) || !in(year, 0, 27) || !in(sum, 1, 10000)) {
            return BAD;
        }
        return tell(repairs, 20, house, year, sum);
    }

    int empty(int house, int from, int to) {
        if (!in(house, 0, 5) || !aDay(from) || !aDay(to) || from > to) {
            return BAD;
        }
        return tell(empties, 20, house, from, to);
    }

    int rent(int house, int year) {
        if (!in(house, 0, 5) || !in(year, 0, 27)) {
            return BAD;
        }
        int shrunk = houses[house][0];
        for (int y = 0; y < year; y++) {
            shrunk = shrunk - shrunk * houses[house][1] / 100;
        }
        int emptyDays = 0;
        for (int day = 360 * year; day < 360 * year + 360; day++) {
            int today = day;
            emptyDays += empties.stream().anyMatch(e -> e[0] == house && in(today, e[1], e[2])) ? 1 : 0;
        }
        int repaired = repairs.stream().filter(r -> r[0] == house && r[1] == year).mapToInt(r -> r[2]).sum();
        return Math.max(0, shrunk - repaired - shrunk * emptyDays / 360);
    }

    int comes(int promise, int year, int what) {
        if (!there(promise) || !in(year, 0, 27) || !in(what, 0, 1)) {
            return BAD;
        }
        int comes = alone(promise, year);
        int other = joinedTo(promise, 360 * year);
        if (other != NONE) {
            comes += alone(other, year);
        }
        return what == 0 ? comes : comes >= prices[0] ? 1 : 0;
    }

    private int alone(int promise, int year) {
        return rent(promises.get(promise).house, year) * promises.get(promise).pays / 100;
    }

    int fails(int promise) {
        if (!there(promise)) {
            return BAD;
        }
        if (!promises.get(promise).obit) {
            for (int year = promises.get(promise).from / 360; year <= 27; year++) {
                if (comes(promise, year, 1) == 0) {
                    return year;
                }
            }
        }
        return NONE;
    }

    int price(int what, int v) {
        if (!in(what, 0, 2) || !in(v, 0, what == 0 ? 10000 : 99)) {
            return BAD;
        }
        int was = prices[what];
        prices[what] = v;
        return was;
    }

    int spent(int year) {
        if (!in(year, 0, 27)) {
            return BAD;
        }
        int spent = 0;
        for (Promise p : promises) {
            if (p.obit) {
                for (int day : wants(p)) {
                    spent += day / 360 == year ? p.bread * prices[1] + p.candle * prices[2] : 0;
                }
            }
        }
        return spent;
    }

    // ---- naming, acts

    int vacant(int promise, int day, int sheet, int i, int n) {
        if (!there(promise) || !aDay(day) || !in(sheet, 0, 7) || !in(n, 0, 4)) {
            return BAD;
        }
        if (sheets[sheet] == null) {
            return finding(1);
        }
        if (i < 0 || (long) i + 2 * n > sheets[sheet].length) {
            return finding(2);
        }
        int[] vacancy = new int[1 + 2 * n];
        vacancy[0] = day;
        for (int k = 0; k < 2 * n; k++) {
            int item = sheets[sheet][i + k];
            if (k % 2 == 0 ? !in(item, 0, 9) : !in(item, 1, 400)) {
                return BAD;
            }
            vacancy[k + 1] = item;
        }
        vacancies.put(promise, vacancy);
        return fine(n);
    }

    int turn(int promise, int day) {
        if (!there(promise) || !aDay(day)) {
            return BAD;
        }
        int[] vacancy = vacancies.get(promise);
        if (vacancy == null || day < vacancy[0]) {
            return NONE;
        }
        List<Integer> byDay = new ArrayList<>();
        for (int k = 1; k < vacancy.length; k += 2) {
            for (int d = 0; d < vacancy[k + 1]; d++) {
                byDay.add(vacancy[k]);
            }
        }
        int at = day - vacancy[0];
        return at < byDay.size() ? byDay.get(at) : 10;
    }

    int act(int day, int from, int to, int spares) {
        if (!aDay(day) || !in(from, 0, 99) || !in(to, 0, 99) || from > to || !in(spares, 0, 1)) {
            return BAD;
        }
        return tell(acts, 10, day, from, to, spares);
    }

    int taken(int promise) {
        if (!there(promise)) {
            return BAD;
        }
        Promise p = promises.get(promise);
        return acts.stream().filter(a -> p.from <= a[0] && in(p.soul, a[1], a[2]) && !(p.obit && a[3] == 1))
                .mapToInt(a -> a[0]).min().orElse(NONE);
    }

    private boolean takenBy(int promise, int day) {
        return taken(promise) != NONE && taken(promise) <= day;
    }

    private boolean ended(int promise, int day) {
        return takenBy(promise, day) || promises.get(promise).till < day;
    }

    int pension(int priest, int day) {
        if (!in(priest, 0, 7) || !aDay(day)) {
            return BAD;
        }
        int pension = 0;
        for (int promise = 0; promise < promises.size(); promise++) {
            if (promises.get(promise).priest == priest && takenBy(promise, day)) {
                int year = taken(promise) / 360;
                pension += comes(promise, year == 0 ? 0 : year - 1, 0) / 2;
            }
        }
        return Math.min(200, pension);
    }

    int bid(int house, int person, int sum) {
        if (!in(house, 0, 5) || !in(person, 0, 9) || !in(sum, 1, 100000)) {
            return BAD;
        }
        return tell(bids, 20, house, person, sum);
    }

    int sold(int house, int day) {
        if (!in(house, 0, 5) || !aDay(day)) {
            return BAD;
        }
        List<Integer> withIt = new ArrayList<>();
        for (int promise = 0; promise < promises.size(); promise++) {
            if (promises.get(promise).house == house) {
                withIt.add(promise);
            }
        }
        if (withIt.isEmpty() || !withIt.stream().allMatch(p -> takenBy(p, day))) {
            return NONE;
        }
        int greatest = bids.stream().filter(b -> b[0] == house).mapToInt(b -> b[2]).max().orElse(NONE);
        return bids.stream().filter(b -> b[0] == house && b[2] == greatest).mapToInt(b -> b[1]).findFirst()
                .orElse(NONE);
    }

    // ---- dawns

    int dawn(int set, int day, int promise) {
        if (set <= 0 || set >= 1 << promises.size() || Integer.bitCount(set) > 8 || !aDay(day)
                || promise != NONE && !in(promise, 0, 11)) {
            return BAD;
        }
        int[] row = new int[promises.size()];
        Arrays.fill(row, NONE);
        int[] best = null;
        for (int left = 0; best == null; left++) {
            best = firstRow(set, day, row, 0, left) ? row : null;
        }
        int howMany = (int) Arrays.stream(best).filter(hour -> hour != NONE).count();
        return promise == NONE ? howMany : promise < best.length ? best[promise] : NONE;
    }

    /** The least row in which at most so many of the set are left without an hour. */
    private boolean firstRow(int set, int day, int[] row, int at, int left) {
        if (at == row.length) {
            return true;
        }
        if ((set >> at & 1) == 0) {
            return firstRow(set, day, row, at + 1, left);
        }
        Promise p = promises.get(at);
        int saidByHim = 0;
        for (int i = 0; i < at; i++) {
            saidByHim += row[i] != NONE && promises.get(i).priest == p.priest ? 1 : 0;
        }
        for (int hour = 0; hour < 5 && saidByHim < vows[p.priest] && !isSick(p.priest, day); hour++) {
            boolean free = true;
            for (int i = 0; i < at; i++) {
                free &= row[i] != hour || promises.get(i).priest != p.priest && promises.get(i).altar != p.altar;
            }
            row[at] = hour;
            if (free && firstRow(set, day, row, at + 1, left)) {
                return true;
            }
        }
        row[at] = NONE;
        return left > 0 && firstRow(set, day, row, at + 1, left - 1);
    }

    // ---- asked: here by classes, as the document tells of bodies

    private interface Asked {
        Oracle rolls();

        int number();

        default Promise told() {
            return rolls().promises.get(number());
        }

        default int size() {
            rolls().trace.add(10);
            return told().each;
        }

        default int mark() {
            rolls().trace.add(20);
            return told().soul;
        }
    }

    private static class Mass implements Asked {
        private final Oracle rolls;
        private final int number;

        Mass(Oracle rolls, int number) {
            this.rolls = rolls;
            this.number = number;
        }

        @Override
        public Oracle rolls() {
            return rolls;
        }

        @Override
        public int number() {
            return number;
        }

        @Override
        public int size() {
            rolls().trace.add(11);
            return Asked.super.size() + rolls().count(number(), rolls().theDay, 2);
        }

        @Override
        public int mark() {
            rolls().trace.add(21);
            return Asked.super.mark() + 100 * told().altar;
        }
    }

    private static final class Joined extends Mass {
        Joined(Oracle rolls, int number) {
            super(rolls, number);
        }

        @Override
        public int size() {
            rolls().trace.add(12);
            return 2 * super.size();
        }

        @Override
        public int mark() {
            rolls().trace.add(22);
            return super.mark() + rolls().joinedTo(number(), rolls().theDay);
        }
    }

    private record Obit(Oracle rolls, int number) implements Asked {
        @Override
        public int size() {
            rolls.trace.add(13);
            return Asked.super.size() + told().bread;
        }

        @Override
        public int mark() {
            rolls.trace.add(23);
            return Asked.super.mark() + size();
        }
    }

    private record Gone(Oracle rolls, int number) implements Asked {
        @Override
        public int size() {
            rolls.trace.add(14);
            return -mark();
        }
    }

    private Asked asked(int promise) {
        if (ended(promise, theDay)) {
            return new Gone(this, promise);
        }
        if (promises.get(promise).obit) {
            return new Obit(this, promise);
        }
        return joinedTo(promise, theDay) == NONE ? new Mass(this, promise) : new Joined(this, promise);
    }

    private static boolean is(Asked asked, int kind) {
        return switch (kind) {
            case 1 -> asked instanceof Mass;
            case 2 -> asked instanceof Joined;
            case 3 -> asked instanceof Obit;
            case 4 -> asked instanceof Gone;
            default -> true;
        };
    }

    int day(int day) {
        if (!aDay(day)) {
            return BAD;
        }
        int was = theDay;
        theDay = day;
        return was;
    }

    int kind(int promise) {
        if (!there(promise)) {
            return BAD;
        }
        Asked asked = asked(promise);
        int kind = 4;
        while (!is(asked, kind)) {
            kind--;
        }
        return kind;
    }

    int as(int promise, int kind) {
        if (!there(promise) || !in(kind, 0, 4)) {
            return BAD;
        }
        return is(asked(promise), kind) ? fine(promises.get(promise).soul) : finding(3);
    }

    int ask(int promise, int what) {
        if (!there(promise) || !in(what, 0, 1)) {
            return BAD;
        }
        trace = new ArrayList<>();
        return what == 0 ? asked(promise).size() : asked(promise).mark();
    }

    int trace(int i) {
        return in(i, 0, Math.min(16, trace.size()) - 1) ? trace.get(i) : NONE;
    }

    int all(int what) {
        int gone = 0;
        for (int promise = 0; promise < promises.size(); promise++) {
            gone += ended(promise, theDay) ? 1 : 0;
        }
        int there = (int) Arrays.stream(sheets).filter(s -> s != null).count();
        int[] counts = {there, promises.size(), feasts.size(), lines.size(), goodLines().size(), gone, acts.size(),
            bids.size(), tape.length()};
        return in(what, 0, 8) ? counts[what] : BAD;
    }

    int status() {
        return status;
    }
}
