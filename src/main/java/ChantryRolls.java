import java.util.Arrays;

/** Masses for the dead: promises told in deeds, what is owed of them, what feeds them, and how they end. */
public final class ChantryRolls {
    public static final int NONE = -1000000, BAD = -1000001, STATE = -1000002, FULL = -1000003;

    /** A finding is answered as this less its number. */
    private static final int FINDINGS = -1000010;
    private static final int NULL = 1;
    private static final int PLACE = 2;
    private static final int KIND = 3;
    private static final int SIZE = 4;
    private static final int STORE = 5;

    /** A fault is answered as this less its place. */
    private static final int FAULTS = -1000100;

    private static final int LAST_DAY = 9999;
    private static final int YEAR_DAYS = 360;
    private static final int LAST_YEAR = 27;
    private static final int MOST_PROMISES = 12;
    private static final int ALTARS = 4;
    private static final int HOURS = 5;
    private static final int PRIESTS = 8;
    private static final int HOUSES = 6;
    private static final int LAST_SOUL = 99;
    private static final int MOST_VOW = 3;
    private static final int LAST_PERSON = 9;
    private static final int MOST_SUM = 10000;
    private static final int MOST_BID = 100000;
    private static final int MOST_PENSION = 200;
    private static final int MOST_PRICE = 99;

    /** What a promise is told of: the columns of its row, by the numbers that told() takes. */
    private static final int IS_OBIT = 0;
    private static final int SOUL = 1;
    private static final int ALTAR = 2;
    private static final int PRIEST = 3;
    private static final int EACH = 4;
    private static final int FROM = 5;
    private static final int TILL = 6;
    private static final int HOUSE = 7;
    private static final int PAYS = 8;
    private static final int BREAD = 9;
    private static final int CANDLE = 10;
    private static final int COLUMNS = 11;

    private static final int PROMISE = 0;
    private static final int MASS = 1;
    private static final int JOINED = 2;
    private static final int OBIT = 3;
    private static final int GONE = 4;

    private static final int WAGE = 0;
    private static final int BREAD_PRICE = 1;
    private static final int CANDLE_PRICE = 2;

    private static final int MOST_TRACED = 16;
    /** Far above the four bodies that the longest ask goes through. */
    private static final int MOST_ASKED = 16;

    private final Sheets sheets = new Sheets();
    private final Promises promises = new Promises();
    private final Deeds tape = new Deeds();
    private final Feasts feasts = new Feasts();
    private final int[] vows = new int[PRIESTS];
    private final Spans sickness = new Spans();
    private final Acts acts = new Acts(promises);
    private final Lines said = new Lines(promises, acts, sickness, vows);
    private final Joins joins = new Joins();
    private final Houses houses = new Houses();
    private final int[] prices = new int[3];
    private final Namings namings = new Namings();
    private final Dawn dealt = new Dawn(promises, sickness, vows);
    private final int[] traced = new int[MOST_TRACED];
    private int traceLength = 0;
    private int theDay = 0;
    private int finding = 0;

    public ChantryRolls() {
        Arrays.fill(vows, 1);
        prices[WAGE] = 100;
        prices[BREAD_PRICE] = 1;
        prices[CANDLE_PRICE] = 1;
    }

    // ---- sheets

    public int sheet(int sheet, int lane, int n) {
        if (Sheets.noSuch(sheet) || outside(lane, 0, Sheets.LAST_LANE) || n > Sheets.MOST_ITEMS) {
            return BAD;
        }
        if (n < 0) {
            return found(SIZE);
        }
        sheets.make(sheet, lane, n);
        return foundNothing(n);
    }

    public int set(int sheet, int i, int v) {
        if (Sheets.noSuch(sheet)) {
            return BAD;
        }
        if (sheets.missing(sheet)) {
            return found(NULL);
        }
        if (!sheets.holds(sheet, i, 1)) {
            return found(PLACE);
        }
        return foundNothing(sheets.put(sheet, i, v));
    }

    public int copy(int a, int i, int b, int j, int n) {
        if (Sheets.noSuch(a) || Sheets.noSuch(b)) {
            return BAD;
        }
        if (sheets.missing(a) || sheets.missing(b)) {
            return found(NULL);
        }
        if (!sheets.alike(a, b)) {
            return found(STORE);
        }
        if (!sheets.holds(a, i, n) || !sheets.holds(b, j, n)) {
            return found(PLACE);
        }
        sheets.move(a, i, b, j, n);
        return foundNothing(n);
    }

    public int drop(int sheet) {
        if (Sheets.noSuch(sheet)) {
            return BAD;
        }
        if (sheets.missing(sheet)) {
            return found(NULL);
        }
        return foundNothing(sheets.remove(sheet));
    }

    // ---- deeds, feasts

    public int feed(long w, int n) {
        if (outside(n, 1, 8)) {
            return BAD;
        }
        return tape.take(w, n);
    }

    public int deeds() {
        return tape.read(promises);
    }

    public int fault() {
        return tape.latestFault();
    }

    public int told(int promise, int what) {
        if (!promises.has(promise) || outside(what, 0, COLUMNS - 1)) {
            return BAD;
        }
        return promises.of(promise, what);
    }

    public int feast(int day, int rank) {
        if (noDay(day) || outside(rank, 1, 2)) {
            return BAD;
        }
        return feasts.full() ? FULL : feasts.add(day, rank);
    }

    public int count(int promise, int day, int what) {
        if (!promises.has(promise) || noDay(day) || outside(what, 0, 2)) {
            return BAD;
        }
        switch (what) {
            case 0:
                return wantedTill(promise, day);
            case 1:
                return said.countTill(promise, day, joins);
            default:
                return owedTill(promise, day);
        }
    }

    // ---- lines

    public int vow(int priest, int v) {
        if (outside(priest, 0, PRIESTS - 1) || outside(v, 1, MOST_VOW)) {
            return BAD;
        }
        int was = vows[priest];
        vows[priest] = v;
        said.judge();
        return was;
    }

    public int sick(int priest, int from, int to) {
        if (outside(priest, 0, PRIESTS - 1) || noSpan(from, to)) {
            return BAD;
        }
        if (sickness.full()) {
            return FULL;
        }
        int there = sickness.add(priest, from, to);
        said.judge();
        return there;
    }

    public int say(int promise, int day, int hour) {
        if (noLine(promise, day, hour)) {
            return BAD;
        }
        if (said.full()) {
            return FULL;
        }
        int line = said.add(promise, day, hour);
        said.judge();
        return line;
    }

    public int lines(int sheet, int i, int n) {
        if (Sheets.noSuch(sheet) || outside(n, 1, 20)) {
            return BAD;
        }
        if (sheets.missing(sheet)) {
            return found(NULL);
        }
        if (!sheets.holds(sheet, i, 3 * n)) {
            return found(PLACE);
        }
        int came = 0;
        for (int at = i; at < i + 3 * n; at += 3) {
            int promise = sheets.item(sheet, at);
            int day = sheets.item(sheet, at + 1);
            int hour = sheets.item(sheet, at + 2);
            if (!noLine(promise, day, hour) && !said.full()) {
                said.add(promise, day, hour);
                came++;
            }
        }
        said.judge();
        return foundNothing(came);
    }

    public int good(int line) {
        if (outside(line, 0, said.size() - 1)) {
            return BAD;
        }
        return said.isGood(line) ? 1 : 0;
    }

    public int join(int a, int b, int day) {
        if (!promises.has(a) || !promises.has(b) || a == b || noDay(day)) {
            return BAD;
        }
        if (joins.holdsFrom(a, day) || joins.holdsFrom(b, day)) {
            return STATE;
        }
        if (joins.full()) {
            return FULL;
        }
        joins.add(a, b, day);
        return 1;
    }

    public int split(int promise, int day) {
        if (!promises.has(promise) || noDay(day)) {
            return BAD;
        }
        return joins.part(promise, day) ? 1 : STATE;
    }

    // ---- houses

    public int house(int house, int what, int v) {
        if (noHouse(house) || outside(what, 0, 1) || outside(v, 0, what == 0 ? MOST_SUM : 100)) {
            return BAD;
        }
        return what == 0 ? houses.changeRent(house, v) : houses.changeShrink(house, v);
    }

    public int repair(int house, int year, int sum) {
        if (noHouse(house) || noYear(year) || outside(sum, 1, MOST_SUM)) {
            return BAD;
        }
        return houses.repairsFull() ? FULL : houses.addRepair(house, year, sum);
    }

    public int empty(int house, int from, int to) {
        if (noHouse(house) || noSpan(from, to)) {
            return BAD;
        }
        return houses.emptiesFull() ? FULL : houses.addEmpty(house, from, to);
    }

    public int rent(int house, int year) {
        if (noHouse(house) || noYear(year)) {
            return BAD;
        }
        return houses.rentIn(house, year);
    }

    public int comes(int promise, int year, int what) {
        if (!promises.has(promise) || noYear(year) || outside(what, 0, 1)) {
            return BAD;
        }
        if (what == 0) {
            return comesTo(promise, year);
        }
        return feeds(promise, year) ? 1 : 0;
    }

    public int fails(int promise) {
        if (!promises.has(promise)) {
            return BAD;
        }
        if (promises.isObit(promise)) {
            return NONE;
        }
        for (int year = promises.of(promise, FROM) / YEAR_DAYS; year <= LAST_YEAR; year++) {
            if (!feeds(promise, year)) {
                return year;
            }
        }
        return NONE;
    }

    public int price(int what, int v) {
        if (outside(what, 0, 2) || outside(v, 0, what == WAGE ? MOST_SUM : MOST_PRICE)) {
            return BAD;
        }
        int was = prices[what];
        prices[what] = v;
        return was;
    }

    public int spent(int year) {
        if (noYear(year)) {
            return BAD;
        }
        int first = year * YEAR_DAYS;
        int last = Math.min(first + YEAR_DAYS - 1, LAST_DAY);
        int sum = 0;
        for (int promise = 0; promise < promises.size(); promise++) {
            if (promises.isObit(promise)) {
                int times = wantedTill(promise, last) - wantedTill(promise, first - 1);
                sum += times * obitCost(promise);
            }
        }
        return sum;
    }

    // ---- naming, acts

    public int vacant(int promise, int day, int sheet, int i, int n) {
        if (!promises.has(promise) || noDay(day) || Sheets.noSuch(sheet) || outside(n, 0, Namings.MOST_PATRONS)) {
            return BAD;
        }
        if (sheets.missing(sheet)) {
            return found(NULL);
        }
        if (!sheets.holds(sheet, i, 2 * n)) {
            return found(PLACE);
        }
        for (int at = i; at < i + 2 * n; at += 2) {
            if (outside(sheets.item(sheet, at), 0, LAST_PERSON) || outside(sheets.item(sheet, at + 1), 1, 400)) {
                return BAD;
            }
        }
        namings.begin(promise, day);
        for (int at = i; at < i + 2 * n; at += 2) {
            namings.addPatron(promise, sheets.item(sheet, at), sheets.item(sheet, at + 1));
        }
        return foundNothing(n);
    }

    public int turn(int promise, int day) {
        if (!promises.has(promise) || noDay(day)) {
            return BAD;
        }
        return namings.whoNames(promise, day);
    }

    public int act(int day, int from, int to, int spares) {
        if (noDay(day) || outside(from, 0, LAST_SOUL) || outside(to, from, LAST_SOUL) || outside(spares, 0, 1)) {
            return BAD;
        }
        if (acts.full()) {
            return FULL;
        }
        int there = acts.add(day, from, to, spares);
        said.judge();
        return there;
    }

    public int taken(int promise) {
        if (!promises.has(promise)) {
            return BAD;
        }
        return acts.dayOfTaking(promise);
    }

    public int pension(int priest, int day) {
        if (outside(priest, 0, PRIESTS - 1) || noDay(day)) {
            return BAD;
        }
        int sum = 0;
        for (int promise = 0; promise < promises.size(); promise++) {
            if (promises.of(promise, PRIEST) == priest && acts.takenBy(promise, day)) {
                int year = acts.dayOfTaking(promise) / YEAR_DAYS;
                sum += comesTo(promise, Math.max(0, year - 1)) / 2;
            }
        }
        return Math.min(sum, MOST_PENSION);
    }

    public int bid(int house, int person, int sum) {
        if (noHouse(house) || outside(person, 0, LAST_PERSON) || outside(sum, 1, MOST_BID)) {
            return BAD;
        }
        return houses.bidsFull() ? FULL : houses.addBid(house, person, sum);
    }

    public int sold(int house, int day) {
        if (noHouse(house) || noDay(day)) {
            return BAD;
        }
        return acts.wholeHouseTakenBy(house, day) ? houses.greatestBidder(house) : NONE;
    }

    // ---- dawns

    public int dawn(int set, int day, int promise) {
        if (!promises.areThere(set) || Integer.bitCount(set) > Dawn.MOST_MEMBERS || noDay(day)) {
            return BAD;
        }
        if (promise != NONE && outside(promise, 0, MOST_PROMISES - 1)) {
            return BAD;
        }
        dealt.deal(set, day);
        return promise == NONE ? dealt.howMany() : dealt.hourOf(promise);
    }

    // ---- asked

    public int day(int day) {
        if (noDay(day)) {
            return BAD;
        }
        int was = theDay;
        theDay = day;
        return was;
    }

    public int kind(int promise) {
        return promises.has(promise) ? kindToday(promise) : BAD;
    }

    public int as(int promise, int kind) {
        if (!promises.has(promise) || outside(kind, PROMISE, GONE)) {
            return BAD;
        }
        int told = kindToday(promise);
        if (kind == PROMISE || kind == told || (kind == MASS && told == JOINED)) {
            return foundNothing(promises.of(promise, SOUL));
        }
        return found(KIND);
    }

    public int ask(int promise, int what) {
        if (!promises.has(promise) || outside(what, 0, 1)) {
            return BAD;
        }
        traceLength = 0;
        int told = kindToday(promise);
        return what == 0 ? sizeAs(told, promise, 0) : markAs(told, promise, 0);
    }

    public int trace(int i) {
        return outside(i, 0, traceLength - 1) ? NONE : traced[i];
    }

    public int all(int what) {
        switch (what) {
            case 0:
                return sheets.howMany();
            case 1:
                return promises.size();
            case 2:
                return feasts.size();
            case 3:
                return said.size();
            case 4:
                return said.howManyGood();
            case 5:
                return howManyGone();
            case 6:
                return acts.size();
            case 7:
                return houses.howManyBids();
            case 8:
                return tape.size();
            default:
                return BAD;
        }
    }

    public int status() {
        return finding;
    }

    // ---- numbers that are not as told

    private static boolean outside(int v, int least, int most) {
        return v < least || v > most;
    }

    private static boolean noDay(int day) {
        return outside(day, 0, LAST_DAY);
    }

    private static boolean noSpan(int from, int to) {
        return noDay(from) || outside(to, from, LAST_DAY);
    }

    private static boolean noYear(int year) {
        return outside(year, 0, LAST_YEAR);
    }

    private static boolean noHouse(int house) {
        return outside(house, 0, HOUSES - 1);
    }

    private boolean noLine(int promise, int day, int hour) {
        return !promises.has(promise) || noDay(day) || outside(hour, 0, HOURS - 1);
    }

    // ---- findings

    private int found(int number) {
        finding = number;
        return FINDINGS - number;
    }

    private int foundNothing(int answer) {
        finding = 0;
        return answer;
    }

    // ---- what is wanted, what comes

    private int wantedTill(int promise, int day) {
        return feasts.wantedTill(promises.of(promise, FROM), promises.of(promise, TILL),
                promises.of(promise, EACH), day);
    }

    private int owedTill(int promise, int day) {
        return Math.max(0, wantedTill(promise, day) - said.countTill(promise, day, joins));
    }

    private int ownShare(int promise, int year) {
        return houses.rentIn(promises.of(promise, HOUSE), year) * promises.of(promise, PAYS) / 100;
    }

    private int comesTo(int promise, int year) {
        int share = ownShare(promise, year);
        int other = joins.otherOf(promise, year * YEAR_DAYS);
        return other == NONE ? share : share + ownShare(other, year);
    }

    private boolean feeds(int promise, int year) {
        return comesTo(promise, year) >= prices[WAGE];
    }

    private int obitCost(int promise) {
        return promises.of(promise, BREAD) * prices[BREAD_PRICE]
                + promises.of(promise, CANDLE) * prices[CANDLE_PRICE];
    }

    // ---- kinds and bodies

    private int kindToday(int promise) {
        if (acts.ended(promise, theDay)) {
            return GONE;
        }
        if (promises.isObit(promise)) {
            return OBIT;
        }
        return joins.otherOf(promise, theDay) == NONE ? MASS : JOINED;
    }

    private int howManyGone() {
        int gone = 0;
        for (int promise = 0; promise < promises.size(); promise++) {
            if (kindToday(promise) == GONE) {
                gone++;
            }
        }
        return gone;
    }

    private void leaveInTrace(int body) {
        if (traceLength < traced.length) {
            traced[traceLength] = body;
            traceLength++;
        }
    }

    /**
     * The body that this kind has for SIZE. A body that goes on what another gives asks as that one's kind;
     * one that asks anew asks as its own, for only kinds that are no other kind's (OBIT, GONE) ask anew.
     */
    private int sizeAs(int kind, int promise, int depth) {
        if (depth > MOST_ASKED) {
            return 0;
        }
        switch (kind) {
            case GONE:
                leaveInTrace(14);
                return 0 - markAs(kind, promise, depth + 1);
            case OBIT:
                leaveInTrace(13);
                return sizeAs(PROMISE, promise, depth + 1) + promises.of(promise, BREAD);
            case JOINED:
                leaveInTrace(12);
                return 2 * sizeAs(MASS, promise, depth + 1);
            case MASS:
                leaveInTrace(11);
                return sizeAs(PROMISE, promise, depth + 1) + owedTill(promise, theDay);
            default:
                leaveInTrace(10);
                return promises.of(promise, EACH);
        }
    }

    /** As sizeAs, for MARK: GONE ones have no body of their own there, so they get the lent one. */
    private int markAs(int kind, int promise, int depth) {
        if (depth > MOST_ASKED) {
            return 0;
        }
        switch (kind) {
            case OBIT:
                leaveInTrace(23);
                return markAs(PROMISE, promise, depth + 1) + sizeAs(kind, promise, depth + 1);
            case JOINED:
                leaveInTrace(22);
                return markAs(MASS, promise, depth + 1) + joins.otherOf(promise, theDay);
            case MASS:
                leaveInTrace(21);
                return markAs(PROMISE, promise, depth + 1) + 100 * promises.of(promise, ALTAR);
            default:
                leaveInTrace(20);
                return promises.of(promise, SOUL);
        }
    }

    /** The eight sheets. */
    private static final class Sheets {
        static final int MOST_ITEMS = 60;
        static final int LAST_LANE = 2;
        private static final int SHEETS = 8;
        private static final int BYTES = 0;
        private static final int SHORTS = 1;
        private static final int MISSING = -1;

        private final int[] lanes = new int[SHEETS];
        private final int[] sizes = new int[SHEETS];
        private final int[][] items = new int[SHEETS][MOST_ITEMS];

        Sheets() {
            Arrays.fill(lanes, MISSING);
        }

        static boolean noSuch(int sheet) {
            return outside(sheet, 0, SHEETS - 1);
        }

        boolean missing(int sheet) {
            return lanes[sheet] == MISSING;
        }

        boolean alike(int a, int b) {
            return lanes[a] == lanes[b];
        }

        /** Written with a difference, for i + n might wrap around. */
        boolean holds(int sheet, int i, int n) {
            return i >= 0 && n >= 0 && i <= sizes[sheet] && n <= sizes[sheet] - i;
        }

        void make(int sheet, int lane, int n) {
            lanes[sheet] = lane;
            sizes[sheet] = n;
            Arrays.fill(items[sheet], 0);
        }

        int item(int sheet, int i) {
            return items[sheet][i];
        }

        int put(int sheet, int i, int v) {
            items[sheet][i] = lowestBits(lanes[sheet], v);
            return items[sheet][i];
        }

        private static int lowestBits(int lane, int v) {
            if (lane == BYTES) {
                return (byte) v;
            }
            return lane == SHORTS ? (short) v : v;
        }

        void move(int a, int i, int b, int j, int n) {
            System.arraycopy(items[a], i, items[b], j, n);
        }

        int remove(int sheet) {
            lanes[sheet] = MISSING;
            return sizes[sheet];
        }

        int howMany() {
            int there = 0;
            for (int sheet = 0; sheet < SHEETS; sheet++) {
                if (!missing(sheet)) {
                    there++;
                }
            }
            return there;
        }
    }

    /** The promises, a row each; rows behind the last one are room for a deed that is being read. */
    private static final class Promises {
        private final int[][] rows = new int[MOST_PROMISES][COLUMNS];
        private int there = 0;

        int size() {
            return there;
        }

        boolean has(int promise) {
            return promise >= 0 && promise < there;
        }

        /** Whether these bits name one promise at least, and none that is not there. */
        boolean areThere(int set) {
            return set > 0 && set < 1 << there;
        }

        int of(int promise, int what) {
            return rows[promise][what];
        }

        boolean isObit(int promise) {
            return rows[promise][IS_OBIT] == 1;
        }

        void begin(int row, boolean obit) {
            Arrays.fill(rows[row], 0);
            rows[row][IS_OBIT] = obit ? 1 : 0;
            rows[row][EACH] = obit ? YEAR_DAYS : 1;
            rows[row][TILL] = LAST_DAY;
        }

        void tell(int row, int what, int v) {
            rows[row][what] = v;
        }

        void keep(int howMany) {
            there = Math.min(howMany, MOST_PROMISES);
        }
    }

    /** The tape, and the reading of deeds from it, a token at a time. */
    private static final class Deeds {
        private static final int MOST_BYTES = 500;
        private static final int MOST_FIGURES = 5;
        private static final int OUT_OF_PLACE = 1;
        private static final int WRONG_NUMBER = 2;
        private static final int ONE_TOO_MANY = 3;
        /** What a number may be, by what it tells: the columns of a promise's row. */
        private static final int[] LEAST = {0, 0, 0, 0, 1, 0, 0, 0, 0, 0, 0};
        private static final int[] MOST = {1, 99, 3, 7, 360, 9999, 9999, 5, 100, 99, 99};

        private static final int END = 0;
        private static final int NAME = 1;
        private static final int NUMBER = 2;
        private static final int SIGN = 3;
        private static final int NO_TOKEN = 4;

        private final byte[] bytes = new byte[MOST_BYTES];
        private int length = 0;
        private int fault = 0;
        private int token = END;
        private int tokenFrom = 0;
        private int tokenTo = 0;

        int size() {
            return length;
        }

        int latestFault() {
            return fault;
        }

        int take(long w, int n) {
            if (n > MOST_BYTES - length) {
                return FULL;
            }
            for (int left = n - 1; left >= 0; left--) {
                bytes[length] = (byte) (w >> (8 * left));
                length++;
            }
            return length;
        }

        /** Rows are written as they are read, but count as promises only when all was read. */
        int read(Promises promises) {
            int there = promises.size();
            int wrong = 0;
            tokenTo = 0;
            nextToken();
            for (int deed = 0; deed <= MOST_BYTES && wrong == 0 && token != END; deed++) {
                wrong = readDeed(promises, there);
                there++;
            }
            length = 0;
            if (wrong != 0) {
                fault = wrong;
                return FAULTS - tokenFrom;
            }
            promises.keep(there);
            return there;
        }

        /** Answers the fault of the token at which it stopped, 0 if there was none. */
        private int readDeed(Promises promises, int row) {
            boolean obit = spells("obit");
            if (!obit && !spells("mass")) {
                return OUT_OF_PLACE;
            }
            if (row >= MOST_PROMISES) {
                return ONE_TOO_MANY;
            }
            promises.begin(row, obit);
            nextToken();
            int wrong = readTerm(promises, row);
            for (int term = 1; term <= MOST_BYTES && wrong == 0 && token != SIGN; term++) {
                wrong = readTerm(promises, row);
            }
            if (wrong == 0) {
                nextToken();
            }
            return wrong;
        }

        private int readTerm(Promises promises, int row) {
            int what = termSpelt();
            if (what == NONE) {
                return OUT_OF_PLACE;
            }
            nextToken();
            if (token != NUMBER) {
                return OUT_OF_PLACE;
            }
            int v = numberRead();
            if (outside(v, LEAST[what], MOST[what])) {
                return WRONG_NUMBER;
            }
            promises.tell(row, what, v);
            nextToken();
            return 0;
        }

        private void nextToken() {
            int at = tokenTo;
            while (at < length && (bytes[at] == ' ' || bytes[at] == '\n')) {
                at++;
            }
            tokenFrom = at;
            if (at >= length) {
                token = END;
            } else if (letter(at)) {
                token = NAME;
                while (at < length && letter(at)) {
                    at++;
                }
            } else if (figure(at)) {
                while (at < length && figure(at)) {
                    at++;
                }
                token = at - tokenFrom <= MOST_FIGURES ? NUMBER : NO_TOKEN;
            } else {
                token = bytes[at] == ';' ? SIGN : NO_TOKEN;
                at++;
            }
            tokenTo = at;
        }

        private boolean letter(int at) {
            return bytes[at] >= 'a' && bytes[at] <= 'z';
        }

        private boolean figure(int at) {
            return bytes[at] >= '0' && bytes[at] <= '9';
        }

        private int numberRead() {
            int v = 0;
            for (int at = tokenFrom; at < tokenTo; at++) {
                v = 10 * v + bytes[at] - '0';
            }
            return v;
        }

        private boolean spells(String word) {
            if (token != NAME || tokenTo - tokenFrom != word.length()) {
                return false;
            }
            for (int i = 0; i < word.length(); i++) {
                if (bytes[tokenFrom + i] != word.charAt(i)) {
                    return false;
                }
            }
            return true;
        }

        private int termSpelt() {
            for (int what = SOUL; what < COLUMNS; what++) {
                if (spells(wordFor(what))) {
                    return what;
                }
            }
            return NONE;
        }

        private static String wordFor(int what) {
            switch (what) {
                case SOUL:
                    return "soul";
                case ALTAR:
                    return "altar";
                case PRIEST:
                    return "priest";
                case EACH:
                    return "each";
                case FROM:
                    return "from";
                case TILL:
                    return "till";
                case HOUSE:
                    return "house";
                case PAYS:
                    return "pays";
                case BREAD:
                    return "bread";
                default:
                    return "candle";
            }
        }
    }

    /** The feasts: each day kept once, in order, so that a row of them can be stepped over. */
    private static final class Feasts {
        private static final int LIMIT = 30;
        private static final int MOVES = 1;

        private final int[] days = new int[LIMIT];
        private final int[] ranks = new int[LIMIT];
        private int kept = 0;
        private int told = 0;

        int size() {
            return told;
        }

        boolean full() {
            return told >= LIMIT;
        }

        int add(int day, int rank) {
            told++;
            int at = 0;
            while (at < kept && days[at] < day) {
                at++;
            }
            if (at < kept && days[at] == day) {
                ranks[at] = Math.max(ranks[at], rank);
            } else {
                insert(at, day, rank);
            }
            return told;
        }

        private void insert(int at, int day, int rank) {
            for (int i = kept; i > at; i--) {
                days[i] = days[i - 1];
                ranks[i] = ranks[i - 1];
            }
            days[at] = day;
            ranks[at] = rank;
            kept++;
        }

        /**
         * All wants are counted at one stroke, and those that meet a feast put right behind it;
         * one moved beyond the last day is beyond any day asked for, and so barred.
         */
        int wantedTill(int from, int till, int each, int day) {
            int last = Math.min(till, day);
            if (each < 1 || last < from) {
                return 0;
            }
            int wanted = (last - from) / each + 1;
            for (int i = 0; i < kept && days[i] <= last; i++) {
                boolean wants = days[i] >= from && (days[i] - from) % each == 0;
                boolean movedWithin = ranks[i] == MOVES && dayBehind(i) <= day;
                if (wants && !movedWithin) {
                    wanted--;
                }
            }
            return wanted;
        }

        private int dayBehind(int feast) {
            int day = days[feast] + 1;
            for (int i = feast + 1; i < kept && days[i] == day; i++) {
                day++;
            }
            return day;
        }
    }

    /** Spans of days, each of one owner: a priest who is sick, a house that is empty. */
    private static final class Spans {
        private static final int LIMIT = 20;

        private final int[] owners = new int[LIMIT];
        private final int[] firsts = new int[LIMIT];
        private final int[] lasts = new int[LIMIT];
        private int told = 0;

        boolean full() {
            return told >= LIMIT;
        }

        int add(int owner, int first, int last) {
            owners[told] = owner;
            firsts[told] = first;
            lasts[told] = last;
            told++;
            return told;
        }

        boolean covers(int owner, int day) {
            for (int i = 0; i < told; i++) {
                if (owners[i] == owner && firsts[i] <= day && day <= lasts[i]) {
                    return true;
                }
            }
            return false;
        }

        /** How many days from first to last are in a span of the owner's: each step counts up to the end of one. */
        int daysWithin(int owner, int first, int last) {
            int days = 0;
            int from = first;
            for (int step = 0; step < told && from <= last; step++) {
                int span = nextSpan(owner, from);
                if (span == NONE || firsts[span] > last) {
                    break;
                }
                int to = Math.min(lasts[span], last);
                days += to - Math.max(firsts[span], from) + 1;
                from = to + 1;
            }
            return days;
        }

        /** The span that covers this day, or the one that begins first behind it. */
        private int nextSpan(int owner, int day) {
            int next = NONE;
            for (int i = 0; i < told; i++) {
                if (owners[i] == owner && lasts[i] >= day && (next == NONE || firsts[i] < firsts[next])) {
                    next = i;
                }
            }
            return next;
        }
    }

    /** The acts that take promises. */
    private static final class Acts {
        private static final int LIMIT = 10;

        private final Promises promises;
        private final int[] days = new int[LIMIT];
        private final int[] firstSouls = new int[LIMIT];
        private final int[] lastSouls = new int[LIMIT];
        private final int[] spares = new int[LIMIT];
        private int told = 0;

        Acts(Promises promises) {
            this.promises = promises;
        }

        int size() {
            return told;
        }

        boolean full() {
            return told >= LIMIT;
        }

        int add(int day, int firstSoul, int lastSoul, int sparesObits) {
            days[told] = day;
            firstSouls[told] = firstSoul;
            lastSouls[told] = lastSoul;
            spares[told] = sparesObits;
            told++;
            return told;
        }

        private boolean takes(int act, int from, int soul, boolean obit) {
            boolean spared = obit && spares[act] == 1;
            return from <= days[act] && firstSouls[act] <= soul && soul <= lastSouls[act] && !spared;
        }

        int dayOfTaking(int promise) {
            int from = promises.of(promise, FROM);
            int soul = promises.of(promise, SOUL);
            boolean obit = promises.isObit(promise);
            int earliest = NONE;
            for (int act = 0; act < told; act++) {
                if (takes(act, from, soul, obit) && (earliest == NONE || days[act] < earliest)) {
                    earliest = days[act];
                }
            }
            return earliest;
        }

        boolean takenBy(int promise, int day) {
            int on = dayOfTaking(promise);
            return on != NONE && on <= day;
        }

        boolean ended(int promise, int day) {
            return promises.of(promise, TILL) < day || takenBy(promise, day);
        }

        boolean wholeHouseTakenBy(int house, int day) {
            boolean any = false;
            for (int promise = 0; promise < promises.size(); promise++) {
                if (promises.of(promise, HOUSE) == house) {
                    any = true;
                    if (!takenBy(promise, day)) {
                        return false;
                    }
                }
            }
            return any;
        }
    }

    /** Promises joined two and two, each pair till it is parted. */
    private static final class Joins {
        private static final int LIMIT = 10;
        private static final int NEVER = LAST_DAY + 1;

        private final int[] ones = new int[LIMIT];
        private final int[] others = new int[LIMIT];
        private final int[] joined = new int[LIMIT];
        private final int[] parted = new int[LIMIT];
        private int told = 0;

        boolean full() {
            return told >= LIMIT;
        }

        void add(int one, int other, int day) {
            ones[told] = one;
            others[told] = other;
            joined[told] = day;
            parted[told] = NEVER;
            told++;
        }

        private boolean has(int pair, int promise) {
            return ones[pair] == promise || others[pair] == promise;
        }

        /** Whether a pair that was told, even one of later days, keeps the promise from being joined on this day. */
        boolean holdsFrom(int promise, int day) {
            for (int pair = 0; pair < told; pair++) {
                if (has(pair, promise) && parted[pair] > day) {
                    return true;
                }
            }
            return false;
        }

        boolean part(int promise, int day) {
            for (int pair = told - 1; pair >= 0; pair--) {
                if (has(pair, promise)) {
                    if (parted[pair] != NEVER || day <= joined[pair]) {
                        return false;
                    }
                    parted[pair] = day;
                    return true;
                }
            }
            return false;
        }

        /** The promise that this one is joined to on a day, or NONE. */
        int otherOf(int promise, int day) {
            for (int pair = 0; pair < told; pair++) {
                if (has(pair, promise) && joined[pair] <= day && day < parted[pair]) {
                    return ones[pair] == promise ? others[pair] : ones[pair];
                }
            }
            return NONE;
        }
    }

    /** The lines, and which of them are good: judged anew when something is told that they hang on. */
    private static final class Lines {
        private static final int LIMIT = 60;

        private final Promises promises;
        private final Acts acts;
        private final Spans sickness;
        private final int[] vows;
        private final int[] saidFor = new int[LIMIT];
        private final int[] days = new int[LIMIT];
        private final int[] hours = new int[LIMIT];
        private final boolean[] isGood = new boolean[LIMIT];
        /** The lines by days, hours, and as told. */
        private final int[] order = new int[LIMIT];
        private int told = 0;

        Lines(Promises promises, Acts acts, Spans sickness, int[] vows) {
            this.promises = promises;
            this.acts = acts;
            this.sickness = sickness;
            this.vows = vows;
        }

        int size() {
            return told;
        }

        boolean full() {
            return told >= LIMIT;
        }

        boolean isGood(int line) {
            return isGood[line];
        }

        int add(int promise, int day, int hour) {
            int line = told;
            saidFor[line] = promise;
            days[line] = day;
            hours[line] = hour;
            int at = line;
            while (at > 0 && isBehind(order[at - 1], day, hour)) {
                order[at] = order[at - 1];
                at--;
            }
            order[at] = line;
            told++;
            return line;
        }

        private boolean isBehind(int line, int day, int hour) {
            return days[line] > day || (days[line] == day && hours[line] > hour);
        }

        void judge() {
            for (int at = 0; at < told; at++) {
                isGood[order[at]] = standsAt(at);
            }
        }

        /** Those ahead of this place in the order have been judged. */
        private boolean standsAt(int at) {
            int line = order[at];
            int promise = saidFor[line];
            int priest = promises.of(promise, PRIEST);
            int day = days[line];
            if (day < promises.of(promise, FROM) || acts.ended(promise, day) || sickness.covers(priest, day)) {
                return false;
            }
            int saidThatDay = 0;
            for (int i = at - 1; i >= 0 && days[order[i]] == day; i--) {
                if (isGood[order[i]]) {
                    boolean samePriest = promises.of(saidFor[order[i]], PRIEST) == priest;
                    if (hours[order[i]] == hours[line] && (samePriest || sameAltar(order[i], line))) {
                        return false;
                    }
                    saidThatDay += samePriest ? 1 : 0;
                }
            }
            return saidThatDay < vows[priest];
        }

        private boolean sameAltar(int a, int b) {
            return promises.of(saidFor[a], ALTAR) == promises.of(saidFor[b], ALTAR);
        }

        int howManyGood() {
            int good = 0;
            for (int line = 0; line < told; line++) {
                good += isGood[line] ? 1 : 0;
            }
            return good;
        }

        int countTill(int promise, int day, Joins joins) {
            int good = 0;
            for (int line = 0; line < told; line++) {
                if (isGood[line] && days[line] <= day
                        && (saidFor[line] == promise || joins.otherOf(promise, days[line]) == saidFor[line])) {
                    good++;
                }
            }
            return good;
        }
    }

    /** The houses: rents, repairs, empty days, bids. */
    private static final class Houses {
        private static final int LIMIT = 20;

        private final int[] rents = new int[HOUSES];
        private final int[] shrinks = new int[HOUSES];
        private final int[] repairedHouses = new int[LIMIT];
        private final int[] repairYears = new int[LIMIT];
        private final int[] repairSums = new int[LIMIT];
        private int repairs = 0;
        private final Spans empties = new Spans();
        private final int[] bidHouses = new int[LIMIT];
        private final int[] bidders = new int[LIMIT];
        private final int[] bidSums = new int[LIMIT];
        private int bids = 0;

        int changeRent(int house, int v) {
            int was = rents[house];
            rents[house] = v;
            return was;
        }

        int changeShrink(int house, int v) {
            int was = shrinks[house];
            shrinks[house] = v;
            return was;
        }

        boolean repairsFull() {
            return repairs >= LIMIT;
        }

        int addRepair(int house, int year, int sum) {
            repairedHouses[repairs] = house;
            repairYears[repairs] = year;
            repairSums[repairs] = sum;
            repairs++;
            return repairs;
        }

        boolean emptiesFull() {
            return empties.full();
        }

        int addEmpty(int house, int first, int last) {
            return empties.add(house, first, last);
        }

        int rentIn(int house, int year) {
            int rent = rents[house];
            for (int times = 0; times < year; times++) {
                rent -= rent * shrinks[house] / 100;
            }
            int first = year * YEAR_DAYS;
            int emptyDays = empties.daysWithin(house, first, first + YEAR_DAYS - 1);
            return Math.max(0, rent - repairsIn(house, year) - rent * emptyDays / YEAR_DAYS);
        }

        private int repairsIn(int house, int year) {
            int sum = 0;
            for (int i = 0; i < repairs; i++) {
                if (repairedHouses[i] == house && repairYears[i] == year) {
                    sum += repairSums[i];
                }
            }
            return sum;
        }

        int howManyBids() {
            return bids;
        }

        boolean bidsFull() {
            return bids >= LIMIT;
        }

        int addBid(int house, int person, int sum) {
            bidHouses[bids] = house;
            bidders[bids] = person;
            bidSums[bids] = sum;
            bids++;
            return bids;
        }

        int greatestBidder(int house) {
            int bidder = NONE;
            int greatest = 0;
            for (int i = 0; i < bids; i++) {
                if (bidHouses[i] == house && bidSums[i] > greatest) {
                    greatest = bidSums[i];
                    bidder = bidders[i];
                }
            }
            return bidder;
        }
    }

    /** Who names the next priest of each promise. */
    private static final class Namings {
        static final int MOST_PATRONS = 4;
        private static final int BISHOP = 10;

        private final int[] vacantFrom = new int[MOST_PROMISES];
        private final int[] patrons = new int[MOST_PROMISES];
        private final int[][] names = new int[MOST_PROMISES][MOST_PATRONS];
        private final int[][] turns = new int[MOST_PROMISES][MOST_PATRONS];

        Namings() {
            Arrays.fill(vacantFrom, NONE);
        }

        void begin(int promise, int day) {
            vacantFrom[promise] = day;
            patrons[promise] = 0;
        }

        void addPatron(int promise, int patron, int days) {
            int at = patrons[promise];
            if (at < MOST_PATRONS) {
                names[promise][at] = patron;
                turns[promise][at] = days;
                patrons[promise] = at + 1;
            }
        }

        int whoNames(int promise, int day) {
            if (vacantFrom[promise] == NONE || day < vacantFrom[promise]) {
                return NONE;
            }
            int turnEnds = vacantFrom[promise];
            for (int i = 0; i < patrons[promise]; i++) {
                turnEnds += turns[promise][i];
                if (day < turnEnds) {
                    return names[promise][i];
                }
            }
            return BISHOP;
        }
    }

    /** One day's hours dealt to a set of promises, its members, in the order of their numbers. */
    private static final class Dawn {
        static final int MOST_MEMBERS = 8;

        private final Promises promises;
        private final Spans sickness;
        private final int[] vows;
        private final int[] members = new int[MOST_MEMBERS];
        private final int[] hours = new int[MOST_MEMBERS];
        private final boolean[] isSick = new boolean[MOST_MEMBERS];
        private int size = 0;
        /** By sets of members, as bits: whether so many have an hour as ever can. */
        private final boolean[] isLargest = new boolean[1 << MOST_MEMBERS];
        private int most = 0;
        private final int[] altarUse = new int[ALTARS];
        private final int[] priestUse = new int[PRIESTS];

        Dawn(Promises promises, Spans sickness, int[] vows) {
            this.promises = promises;
            this.sickness = sickness;
            this.vows = vows;
        }

        int howMany() {
            return most;
        }

        int hourOf(int promise) {
            for (int at = 0; at < size; at++) {
                if (members[at] == promise) {
                    return hours[at];
                }
            }
            return NONE;
        }

        void deal(int set, int day) {
            size = 0;
            for (int promise = 0; promise < promises.size() && size < MOST_MEMBERS; promise++) {
                if ((set >> promise & 1) == 1) {
                    members[size] = promise;
                    isSick[size] = sickness.covers(promises.of(promise, PRIEST), day);
                    size++;
                }
            }
            findLargest();
            dealFrom(0, 0);
        }

        private void findLargest() {
            most = 0;
            for (int chosen = 0; chosen < 1 << size; chosen++) {
                isLargest[chosen] = canAllHaveAnHour(chosen);
                if (isLargest[chosen]) {
                    most = Math.max(most, Integer.bitCount(chosen));
                }
            }
            for (int chosen = 0; chosen < 1 << size; chosen++) {
                isLargest[chosen] = isLargest[chosen] && Integer.bitCount(chosen) == most;
            }
        }

        /**
         * No hours need be tried here: where no altar and no priest has more promises than there are hours,
         * hours can always be dealt (altars and priests are the two sides of a graph, the promises its edges,
         * the hours its colours).
         */
        private boolean canAllHaveAnHour(int chosen) {
            Arrays.fill(altarUse, 0);
            Arrays.fill(priestUse, 0);
            for (int at = 0; at < size; at++) {
                if ((chosen >> at & 1) == 1) {
                    int altar = promises.of(members[at], ALTAR);
                    int priest = promises.of(members[at], PRIEST);
                    altarUse[altar]++;
                    priestUse[priest]++;
                    if (isSick[at] || altarUse[altar] > HOURS || priestUse[priest] > vows[priest]) {
                        return false;
                    }
                }
            }
            return true;
        }

        /** The least row from this member on; the first row that comes to its end is the one. */
        private boolean dealFrom(int at, int chosen) {
            if (at >= size) {
                return true;
            }
            int with = chosen | 1 << at;
            if (leadsToLargest(with, at + 1)) {
                for (int hour = 0; hour < HOURS; hour++) {
                    if (isFree(at, hour)) {
                        hours[at] = hour;
                        if (dealFrom(at + 1, with)) {
                            return true;
                        }
                    }
                }
            }
            hours[at] = NONE;
            return leadsToLargest(chosen, at + 1) && dealFrom(at + 1, chosen);
        }

        /** Whether a largest set has just these among the first members: else no hour need be tried further on. */
        private boolean leadsToLargest(int chosen, int decided) {
            int ofDecided = (1 << decided) - 1;
            for (int largest = 0; largest < 1 << size; largest++) {
                if (isLargest[largest] && (largest & ofDecided) == chosen) {
                    return true;
                }
            }
            return false;
        }

        private boolean isFree(int at, int hour) {
            for (int i = 0; i < at; i++) {
                if (hours[i] == hour && (alike(i, at, ALTAR) || alike(i, at, PRIEST))) {
                    return false;
                }
            }
            return true;
        }

        private boolean alike(int a, int b, int what) {
            return promises.of(members[a], what) == promises.of(members[b], what);
        }
    }
}
