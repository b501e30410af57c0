/** The promises of the document from 1 to 41, sentence by sentence, each with a run that it decides. */
final class PromisesTest {
    private static final Runs r = new Runs("PromisesTest");

    public static void main(String[] args) {
        newObject();
        sheet();
        set();
        copy();
        drop();
        feed();
        deeds();
        fault();
        told();
        feast();
        count();
        vow();
        sick();
        say();
        lines();
        good();
        join();
        split();
        house();
        repairAndEmpty();
        rentAndComes();
        fails();
        price();
        spent();
        vacant();
        turn();
        act();
        pension();
        bidAndSold();
        dawn();
        day();
        kind();
        as();
        ask();
        trace();
        all();
        status();
        r.finish();
    }

    private static void newObject() {
        r.says("1: All as at first.").run(
                "all(0) = 0", "all(1) = 0", "all(2) = 0", "all(3) = 0", "all(4) = 0", "all(5) = 0", "all(6) = 0",
                "all(7) = 0", "all(8) = 0", "status() = 0", "fault() = 0", "trace(0) = NONE", "day(0) = 0",
                "drop(0) = NULL", "vow(0, 1) = 1", "vow(7, 1) = 1", "house(0, 0, 0) = 0", "house(5, 1, 0) = 0",
                "price(0, 100) = 100", "price(1, 1) = 1", "price(2, 1) = 1", "spent(0) = 0", "pension(0, 0) = 0",
                "sold(0, 0) = NONE", "rent(0, 0) = 0", "deeds() = 0");
    }

    private static void sheet() {
        r.says("2: A SHEET of a LANE with n ITEMS, in place of what is there: n.").run(
                "read mass soul 1; = 1", "sheet(7, 0, 3) = 3", "set(7, 2, 4) = 4", "sheet(7, 1, 2) = 2",
                "set(7, 2, 4) = PLACE", "set(7, 1, 300) = 300", "sheet(7, 2, 6) = 6", "lines(7, 0, 2) = 2",
                "count(0, 0, 1) = 1", "all(0) = 1", "drop(7) = 6");
        r.says("2: BAD: SHEET, LANE, n above 60; SIZE.").run(
                "sheet(8, 0, 1) = BAD", "sheet(-1, 0, 1) = BAD", "sheet(0, 3, 1) = BAD", "sheet(0, -1, 1) = BAD",
                "sheet(0, 0, 61) = BAD", "sheet(0, 0, MAX) = BAD", "all(0) = 0", "sheet(0, 0, -1) = SIZE",
                "sheet(0, 0, MIN) = SIZE", "sheet(8, 0, -1) = BAD", "sheet(0, 3, -1) = BAD", "all(0) = 0",
                "sheet(0, 2, 60) = 60");
    }

    private static void set() {
        r.says("3: ITEM i becomes v, its lowest bits, as many as the LANE has: what it is then.").run(
                "sheet(0, 0, 2) = 2", "set(0, 0, 5) = 5", "set(0, 1, 256) = 0", "set(0, 1, 257) = 1",
                "set(0, 1, -1) = -1", "sheet(1, 1, 2) = 2", "set(1, 0, 256) = 256", "set(1, 0, 65536) = 0",
                "set(1, 1, 65537) = 1", "sheet(2, 2, 1) = 1", "set(2, 0, 65536) = 65536", "set(2, 0, MAX) = MAX",
                "read mass soul 1; = 1", "sheet(3, 0, 3) = 3", "set(3, 0, 256) = 0", "set(3, 1, 263) = 7",
                "set(3, 2, 2) = 2", "lines(3, 0, 1) = 1", "count(0, 6, 1) = 0", "count(0, 7, 1) = 1");
        r.says("3: BAD: SHEET; NULL; PLACE.").run(
                "set(8, 0, 0) = BAD", "set(-1, 0, 0) = BAD", "set(0, 0, 0) = NULL", "set(0, -1, 0) = NULL",
                "sheet(0, 0, 2) = 2", "set(0, -1, 0) = PLACE", "set(0, 2, 0) = PLACE", "set(0, MAX, 0) = PLACE",
                "set(0, MIN, 0) = PLACE", "set(0, 1, 9) = 9");
    }

    private static void copy() {
        // Days 1, 2, 0 become 1, 1, 2; days 5, 6, 7 become 6, 7, 7: what was there ahead of the call comes.
        r.says("4: n ITEMS of a from i on come to b from j on, as they were ahead: n.").run(
                "read mass soul 1; = 1", "sheet(0, 2, 9) = 9", "set(0, 1, 1) = 1", "set(0, 4, 2) = 2",
                "copy(0, 0, 0, 3, 6) = 6", "lines(0, 0, 3) = 3", "good(0) = 1", "good(1) = 0", "good(2) = 1",
                "count(0, 1, 1) = 1", "count(0, 2, 1) = 2", "set(0, 1, 5) = 5", "set(0, 4, 6) = 6", "set(0, 7, 7) = 7",
                "copy(0, 3, 0, 0, 6) = 6", "lines(0, 0, 2) = 2", "count(0, 5, 1) = 2", "count(0, 6, 1) = 3",
                "count(0, 7, 1) = 4", "sheet(1, 2, 4) = 4", "copy(0, 3, 1, 1, 3) = 3", "set(1, 2, 9) = 9",
                "lines(1, 1, 1) = 1", "count(0, 9, 1) = 5", "lines(0, 3, 1) = 1", "count(0, 9, 1) = 5",
                "copy(0, 9, 1, 4, 0) = 0", "copy(0, 0, 1, 0, 0) = 0");
        r.says("4: BAD: SHEETS; NULL; STORE; PLACE (i, j, n below 0, or beyond an end).").run(
                "sheet(0, 2, 4) = 4", "sheet(1, 2, 3) = 3", "sheet(2, 1, 3) = 3", "copy(8, 0, 0, 0, 1) = BAD",
                "copy(0, 0, -1, 0, 1) = BAD", "copy(3, 0, 8, 0, 1) = BAD", "copy(3, 0, 0, 0, 1) = NULL",
                "copy(0, 0, 3, 0, 1) = NULL", "copy(3, -1, 2, 0, 1) = NULL", "copy(0, 0, 2, 0, 1) = STORE",
                "copy(0, -1, 2, 0, 1) = STORE", "copy(0, -1, 1, 0, 1) = PLACE", "copy(0, 0, 1, -1, 1) = PLACE",
                "copy(0, 0, 1, 0, -1) = PLACE", "copy(0, 2, 1, 0, 3) = PLACE", "copy(0, 0, 1, 1, 3) = PLACE",
                "copy(0, 0, 1, 0, 4) = PLACE", "copy(0, 5, 1, 0, 0) = PLACE", "copy(0, 0, 1, 4, 0) = PLACE",
                "copy(0, 1, 1, 0, MAX) = PLACE", "copy(0, MAX, 1, 0, 1) = PLACE", "copy(0, 1, 1, 0, 3) = 3",
                "status() = 0");
    }

    private static void drop() {
        r.says("5: A SHEET is missing from now on: how many ITEMS it had. BAD; NULL.").run(
                "sheet(0, 1, 5) = 5", "sheet(1, 0, 0) = 0", "drop(0) = 5", "set(0, 0, 1) = NULL", "drop(0) = NULL",
                "drop(1) = 0", "drop(1) = NULL", "drop(8) = BAD", "drop(-1) = BAD", "all(0) = 0", "sheet(0, 2, 2) = 2",
                "drop(0) = 2");
    }

    private static void feed() {
        // "mass soul 5;", and that word for word; of a word with more bytes the lowest come.
        r.says("6: The lowest n bytes of w (1 to 8), the highest of them first, come behind the tape: how many it"
                + " has.").run(
                "feed(0x6D61737320736F75, 8) = 8", "feed(0x6C20353B, 4) = 12", "all(8) = 12", "deeds() = 1",
                "told(0, 1) = 5", "feed(0x6D617373, 4) = 4", "feed(0x20736F756C, 5) = 9", "feed(0x3637, 2) = 11",
                "feed(0x6F62693B, 1) = 12", "deeds() = 2", "told(1, 1) = 67", "feed(0x6D6173736F626974, 1) = 1",
                "deeds() = FAULT 0", "feed(-1, 8) = 8", "deeds() = FAULT 0", "feed(0x7373616D, 4) = 4",
                "deeds() = FAULT 0");
        r.says("6: BAD: n; FULL: none comes.").run(
                "feed(32, 0) = BAD", "feed(32, 9) = BAD", "feed(32, -1) = BAD", "all(8) = 0",
                "62 x feed(0x2020202020202020, 8) = 496", "feed(32, 9) = BAD", "feed(0x6D617373, 5) = FULL",
                "all(8) = 496", "feed(0x202020, 3) = 499", "feed(0x2020, 2) = FULL", "feed(0x3B, 1) = 500",
                "feed(32, 1) = FULL", "deeds() = FAULT 499", "feed(32, 1) = 1");
    }

    private static void deeds() {
        r.says("7: The tape, empty then, is read: how many PROMISES there are.").run(
                "deeds() = 0", "read mass soul 1; = 1", "all(8) = 0", "deeds() = 1",
                "read mass soul 2; obit soul 3; = 3", "told(0, 1) = 1", "told(2, 1) = 3", "told(2, 0) = 1");
        r.says("7: -1000100 less the place of a FAULT: none comes.").run(
                "read mass soul 1; mass soul 100; = -1000123", "all(1) = 0", "all(8) = 0", "deeds() = 0",
                "read mass soul 4; = 1", "read obit soul 5; mass soul 6 = -1000124", "all(1) = 1", "told(0, 1) = 4",
                "told(1, 1) = BAD", "read mass altar 3 till 9; mass; = -1000125", "read mass soul 7; = 2",
                "told(1, 2) = 0", "told(1, 6) = 9999");
    }

    private static void fault() {
        r.says("8: The number of the latest FAULT; 0 before one.").run(
                "fault() = 0", "read mass soul 1; = 1", "fault() = 0", "read mass soul 100; = FAULT 10", "fault() = 2",
                "read mass soul 1; = 2", "fault() = 2", "read mass; = FAULT 4", "fault() = 1", "deeds() = 2",
                "fault() = 1", "read mass soul 1; mass soul 1; mass soul 1; mass soul 1; mass soul 1; = 7",
                "read mass soul 1; mass soul 1; = 9",
                "read mass soul 1; mass soul 1; mass soul 1; mass soul 1; = FAULT 39", "fault() = 3", "fault() = 3");
    }

    private static void told() {
        r.says("9: Of a PROMISE: 0 whether it is an obit (1, 0), 1 soul, 2 ALTAR, 3 PRIEST, 4 each, 5 from, 6 till, 7"
                + " HOUSE, 8 pays, 9 bread, 10 candle. BAD.").run(
                "read mass soul 1; = 1",
                "read obit candle 91 bread 92 pays 93 house 4 till 95 from 96 each 97 priest 6 altar 2 soul 98; = 2",
                "told(0, 0) = 0", "told(1, 0) = 1", "told(1, 1) = 98", "told(1, 2) = 2", "told(1, 3) = 6",
                "told(1, 4) = 97", "told(1, 5) = 96", "told(1, 6) = 95", "told(1, 7) = 4", "told(1, 8) = 93",
                "told(1, 9) = 92", "told(1, 10) = 91", "told(1, 11) = BAD", "told(1, -1) = BAD", "told(2, 0) = BAD",
                "told(-1, 0) = BAD");
    }

    private static void feast() {
        r.says("10: A FEAST: how many there are. BAD; FULL: 30.").run(
                "feast(0, 1) = 1", "feast(9999, 2) = 2", "feast(10000, 1) = BAD", "feast(-1, 1) = BAD",
                "feast(5, 0) = BAD", "feast(5, 3) = BAD", "all(2) = 2", "28 x feast(7, 1) = 30", "feast(8, 1) = FULL",
                "feast(8, 3) = BAD", "all(2) = 30");
    }

    private static void count() {
        r.says("11: Of a PROMISE till a day: WANTED (what = 0), SAID (1), OWED (2). BAD.").run(
                "read mass each 2; = 1", "say(0, 3, 0) = 0", "count(0, 2, 0) = 2", "count(0, 2, 1) = 0",
                "count(0, 2, 2) = 2", "count(0, 3, 0) = 2", "count(0, 3, 1) = 1", "count(0, 3, 2) = 1",
                "count(0, 9999, 0) = 5000", "count(0, 9999, 2) = 4999", "count(0, 5, 3) = BAD", "count(0, 5, -1) = BAD",
                "count(0, 10000, 0) = BAD", "count(0, -1, 0) = BAD", "count(1, 5, 0) = BAD", "count(-1, 5, 0) = BAD");
    }

    private static void vow() {
        r.says("12: VOW of a PRIEST: what it was. BAD.").run(
                "vow(0, 2) = 1", "vow(0, 3) = 2", "vow(0, 1) = 3", "vow(0, 1) = 1", "vow(7, 3) = 1", "vow(8, 1) = BAD",
                "vow(-1, 1) = BAD", "vow(0, 0) = BAD", "vow(0, 4) = BAD", "vow(0, 2) = 1", "vow(7, 2) = 3");
    }

    private static void sick() {
        r.says("13: SICK: how many such there are. BAD; FULL: 20.").run(
                "sick(0, 0, 9999) = 1", "sick(7, 5, 5) = 2", "sick(8, 5, 5) = BAD", "sick(-1, 5, 5) = BAD",
                "sick(0, 6, 5) = BAD", "sick(0, -1, 5) = BAD", "sick(0, 5, 10000) = BAD", "18 x sick(1, 5, 6) = 20",
                "sick(1, 5, 6) = FULL", "sick(1, 6, 5) = BAD");
    }

    private static void say() {
        r.says("14: A LINE: its number. BAD; FULL: 60.").run(
                "say(0, 5, 0) = BAD", "read mass soul 1; = 1", "say(0, 5, 0) = 0", "say(0, 3, 4) = 1",
                "say(1, 5, 0) = BAD", "say(0, 10000, 0) = BAD", "say(0, -1, 0) = BAD", "say(0, 5, 5) = BAD",
                "say(0, 5, -1) = BAD", "57 x say(0, 9, 1) = 58", "say(0, 9999, 0) = 59", "say(0, 5, 0) = FULL",
                "say(0, 5, 5) = BAD", "good(59) = 1");
    }

    private static void lines() {
        r.says("15: n LINES (1 to 20), three ITEMS each of a SHEET from i on (PROMISE, day, HOUR): how many came; those"
                + " that would be BAD, FULL are passed over.").run(
                "read mass soul 1; = 1", "sheet(0, 2, 13) = 13", "set(0, 1, 0)", "set(0, 2, 8)", "set(0, 3, 4)",
                "set(0, 4, 1)", "set(0, 5, 8)", "set(0, 6, 4)", "set(0, 8, 10000)", "set(0, 11, 9)", "set(0, 12, 0)",
                "lines(0, 1, 4) = 2", "all(3) = 2", "count(0, 8, 1) = 1", "count(0, 9, 1) = 2", "set(0, 3, 5)",
                "lines(0, 1, 1) = 0", "56 x say(0, 20, 0) = 57", "lines(0, 10, 1) = 1", "set(0, 3, 0)", "set(0, 4, 0)",
                "lines(0, 1, 4) = 1", "all(3) = 60", "lines(0, 1, 4) = 0", "sheet(1, 2, 60) = 60",
                "lines(1, 0, 20) = 0");
        r.anew().run("read mass soul 1; = 1", "sheet(1, 2, 60) = 60", "lines(1, 0, 20) = 20", "all(4) = 1");
        r.says("15: BAD: SHEET, n; NULL; PLACE.").run(
                "read mass soul 1; = 1", "lines(8, 0, 1) = BAD", "lines(-1, 0, 1) = BAD", "lines(0, 0, 0) = BAD",
                "lines(0, 0, 21) = BAD", "lines(0, -1, 1) = NULL", "sheet(0, 2, 6) = 6", "lines(0, -1, 1) = PLACE",
                "lines(0, 4, 1) = PLACE", "lines(0, 0, 3) = PLACE", "lines(0, MAX, 1) = PLACE", "lines(0, 0, 21) = BAD",
                "all(3) = 0", "lines(0, 3, 1) = 1");
    }

    private static void good() {
        r.says("16: Whether a LINE is GOOD: 1, 0. BAD.").run(
                "good(0) = BAD", "read mass soul 1; = 1", "say(0, 5, 0) = 0", "say(0, 5, 1) = 1", "good(0) = 1",
                "good(1) = 0", "good(2) = BAD", "good(-1) = BAD", "good(MAX) = BAD");
    }

    private static void join() {
        r.says("17: Two PROMISES are JOINED from a day on: 1. BAD (alike, too);").run(
                "read mass soul 1; mass soul 2; mass soul 3; = 3", "join(0, 0, 5) = BAD", "join(0, 3, 5) = BAD",
                "join(-1, 1, 5) = BAD", "join(0, 1, 10000) = BAD", "join(0, 1, -1) = BAD", "join(0, 1, 5) = 1",
                "join(0, 0, 5) = BAD", "day(5) = 0", "kind(0) = 2", "kind(1) = 2", "kind(2) = 1", "day(4) = 5",
                "kind(0) = 1");
        r.says("17: STATE: one of them is in one that was told, and was not PARTED on that day or ahead of it; FULL:"
                + " 10.").run(
                "read mass soul 1; mass soul 2; mass soul 3; mass soul 4; = 4", "join(0, 1, 10) = 1",
                "join(0, 1, 20) = STATE", "join(0, 2, 20) = STATE", "join(2, 1, 20) = STATE", "join(2, 0, 5) = STATE",
                "join(2, 3, 5) = 1", "split(1, 15) = 1", "join(0, 1, 14) = STATE", "join(0, 1, 5) = STATE",
                "join(0, 1, 15) = 1", "split(0, 16) = 1", "join(1, 0, 16) = 1", "split(0, 17) = 1",
                "join(0, 1, 17) = 1", "split(0, 18) = 1", "join(0, 1, 18) = 1", "split(0, 19) = 1",
                "join(0, 1, 19) = 1", "split(0, 20) = 1", "join(0, 1, 20) = 1", "split(0, 21) = 1",
                "join(0, 1, 21) = 1", "split(0, 22) = 1", "join(0, 1, 22) = 1", "join(0, 2, 30) = STATE",
                "split(0, 30) = 1", "join(0, 1, 29) = STATE", "join(0, 1, 30) = FULL", "join(0, 0, 30) = BAD");
    }

    private static void split() {
        r.says("18: A PROMISE that is JOINED (its latest one not PARTED) is PARTED on a day behind the one it was"
                + " JOINED on: 1.").run(
                "read mass soul 1; mass soul 2; mass soul 3; = 3", "join(0, 1, 10) = 1", "split(1, 11) = 1",
                "day(10) = 0", "kind(0) = 2", "day(11) = 10", "kind(0) = 1", "join(0, 2, 50) = 1", "split(0, 9999) = 1",
                "day(9998) = 11", "kind(2) = 2", "day(9999) = 9998", "kind(2) = 1");
        r.says("18: BAD: PROMISE, day; STATE: it is in none, or the day is no later.").run(
                "read mass soul 1; mass soul 2; mass soul 3; = 3", "split(3, 5) = BAD", "split(-1, 5) = BAD",
                "split(0, 10000) = BAD", "split(0, -1) = BAD", "split(0, 5) = STATE", "join(0, 1, 10) = 1",
                "split(2, 20) = STATE", "split(0, 10) = STATE", "split(0, 9) = STATE", "split(0, 12) = 1",
                "split(0, 13) = STATE", "split(1, 13) = STATE", "join(0, 2, 12) = 1", "split(1, 13) = STATE",
                "split(0, 12) = STATE", "split(2, 13) = 1");
    }

    private static void house() {
        r.says("19: RENT at first (what = 0), SHRINK (1) of a HOUSE: what it was. BAD.").run(
                "house(0, 0, 10000) = 0", "house(0, 1, 100) = 0", "house(0, 0, 5) = 10000", "house(0, 1, 0) = 100",
                "house(5, 0, 7) = 0", "rent(0, 0) = 5", "rent(5, 0) = 7", "house(6, 0, 1) = BAD",
                "house(-1, 0, 1) = BAD", "house(0, 2, 1) = BAD", "house(0, -1, 1) = BAD", "house(0, 0, 10001) = BAD",
                "house(0, 0, -1) = BAD", "house(0, 1, 101) = BAD", "house(0, 1, -1) = BAD", "house(0, 0, 6) = 5",
                "house(0, 1, 1) = 0");
    }

    private static void repairAndEmpty() {
        r.says("20: REPAIRS: how many there are. BAD: HOUSE, YEAR (0 to 27), sum; FULL: 20.").run(
                "repair(0, 0, 1) = 1", "repair(5, 27, 10000) = 2", "repair(6, 0, 1) = BAD", "repair(-1, 0, 1) = BAD",
                "repair(0, 28, 1) = BAD", "repair(0, -1, 1) = BAD", "repair(0, 0, 0) = BAD",
                "repair(0, 0, 10001) = BAD", "18 x repair(1, 1, 1) = 20", "repair(1, 1, 1) = FULL",
                "repair(1, 1, 0) = BAD");
        r.says("21: EMPTY: how many there are. BAD; FULL: 20.").run(
                "empty(0, 0, 0) = 1", "empty(5, 0, 9999) = 2", "empty(6, 0, 0) = BAD", "empty(-1, 0, 0) = BAD",
                "empty(0, 5, 4) = BAD", "empty(0, -1, 4) = BAD", "empty(0, 5, 10000) = BAD", "18 x empty(1, 5, 6) = 20",
                "empty(1, 5, 6) = FULL", "empty(1, 6, 5) = BAD");
    }

    private static void rentAndComes() {
        r.says("22: RENT of a HOUSE in a YEAR. BAD.").run(
                "house(3, 0, 720) = 0", "house(3, 1, 25) = 0", "repair(3, 1, 40) = 1", "empty(3, 360, 395) = 1",
                "rent(3, 0) = 720", "rent(3, 1) = 446", "rent(3, 2) = 405", "rent(3, 28) = BAD", "rent(3, -1) = BAD",
                "rent(6, 0) = BAD", "rent(-1, 0) = BAD");
        r.says("23: COMES to a PROMISE in a YEAR (what = 0), whether it FEEDS (1: 1, 0). BAD.").run(
                "read mass house 3 pays 50; = 1", "house(3, 0, 201) = 0", "house(3, 1, 1) = 0", "comes(0, 0, 0) = 100",
                "comes(0, 0, 1) = 1", "comes(0, 2, 0) = 99", "comes(0, 2, 1) = 0", "comes(0, 0, 2) = BAD",
                "comes(0, 0, -1) = BAD", "comes(0, 28, 0) = BAD", "comes(0, -1, 0) = BAD", "comes(1, 0, 0) = BAD",
                "comes(-1, 0, 0) = BAD");
    }

    private static void fails() {
        r.says("24: FAILS. BAD; NONE: it FEEDS till YEAR 27, or is an obit.").run(
                "read mass pays 100; obit pays 0; mass pays 99; = 3", "house(0, 0, 100) = 0", "fails(0) = NONE",
                "fails(1) = NONE", "fails(2) = 0", "repair(0, 27, 1) = 1", "fails(0) = 27", "repair(0, 26, 1) = 2",
                "fails(0) = 26", "fails(3) = BAD", "fails(-1) = BAD");
    }

    private static void price() {
        r.says("25: WAGE (what = 0), BREAD (1), CANDLE (2): what it was. BAD.").run(
                "price(0, 10000) = 100", "price(0, 0) = 10000", "price(0, 5) = 0", "price(1, 99) = 1",
                "price(1, 0) = 99", "price(2, 99) = 1", "price(2, 0) = 99", "price(0, 10001) = BAD",
                "price(0, -1) = BAD", "price(1, 100) = BAD", "price(1, -1) = BAD", "price(2, 100) = BAD",
                "price(2, -1) = BAD", "price(3, 1) = BAD", "price(-1, 1) = BAD", "price(0, 6) = 5");
    }

    private static void spent() {
        r.says("26: SPENT in a YEAR. BAD.").run(
                "spent(0) = 0", "read obit bread 2 candle 3 each 180 till 540; = 1", "spent(0) = 10", "spent(1) = 10",
                "spent(2) = 0", "spent(27) = 0", "spent(28) = BAD", "spent(-1) = BAD", "price(1, 10) = 1",
                "spent(0) = 46", "price(2, 0) = 1", "spent(0) = 40", "act(0, 0, 99, 0) = 1", "spent(0) = 40");
    }

    private static void vacant() {
        r.says("27: A PROMISE is VACANT from a day on, with up to 4 PATRONS: n (0 to 4) of two ITEMS each of a SHEET"
                + " from i on (PATRON 0 to 9, days 1 to 400): n.").run(
                "read mass soul 1; mass soul 2; = 2", "sheet(0, 1, 9) = 9", "set(0, 1, 9)", "set(0, 2, 2)",
                "set(0, 3, 8)", "set(0, 4, 400)", "set(0, 5, 7)", "set(0, 6, 1)", "set(0, 7, 6)", "set(0, 8, 5)",
                "vacant(1, 10, 0, 1, 4) = 4", "turn(1, 11) = 9", "turn(1, 12) = 8", "turn(1, 411) = 8",
                "turn(1, 412) = 7", "turn(1, 413) = 6", "turn(1, 417) = 6", "turn(1, 418) = 10",
                "vacant(1, 20, 0, 7, 1) = 1", "turn(1, 19) = NONE", "turn(1, 20) = 6", "turn(1, 25) = 10",
                "vacant(1, 30, 0, 9, 0) = 0", "turn(1, 29) = NONE", "turn(1, 30) = 10", "turn(0, 30) = NONE");
        r.says("27: BAD: PROMISE, day, SHEET, n; NULL; PLACE; then BAD: an ITEM.").run(
                "read mass soul 1; = 1", "vacant(1, 5, 0, 0, 0) = BAD", "vacant(0, 10000, 0, 0, 0) = BAD",
                "vacant(0, 5, 8, 0, 0) = BAD", "vacant(0, 5, 0, 0, 5) = BAD", "vacant(0, 5, 0, 0, -1) = BAD",
                "vacant(0, 5, 0, 9, 4) = NULL", "sheet(0, 2, 4) = 4", "vacant(0, 5, 0, 1, 2) = PLACE",
                "vacant(0, 5, 0, -1, 1) = PLACE", "vacant(0, 5, 0, 5, 0) = PLACE", "vacant(0, 5, 0, 0, 3) = PLACE",
                "status() = 2", "vacant(0, 5, 0, 0, 2) = BAD", "status() = 2", "set(0, 1, 1)", "set(0, 3, 401)",
                "vacant(0, 5, 0, 0, 2) = BAD", "set(0, 3, 400)", "set(0, 2, 10)", "vacant(0, 5, 0, 0, 2) = BAD",
                "set(0, 2, -1)", "vacant(0, 5, 0, 0, 2) = BAD", "turn(0, 5) = NONE", "set(0, 2, 9)",
                "vacant(0, 5, 0, 0, 2) = 2", "turn(0, 6) = 9");
    }

    private static void turn() {
        r.says("28: Whose TURN it is on a day: a PATRON, 10; NONE. BAD. (Never told VACANT: NONE.)").run(
                "read mass soul 1; = 1", "turn(0, 9999) = NONE", "turn(1, 5) = BAD", "turn(-1, 5) = BAD",
                "turn(0, 10000) = BAD", "turn(0, -1) = BAD", "sheet(0, 2, 2) = 2", "set(0, 0, 4) = 4",
                "set(0, 1, 3) = 3", "vacant(0, 0, 0, 0, 1) = 1", "turn(0, 0) = 4", "turn(0, 2) = 4", "turn(0, 3) = 10",
                "vacant(0, 9999, 0, 0, 1) = 1", "turn(0, 9998) = NONE", "turn(0, 9999) = 4");
    }

    private static void act() {
        r.says("29: AN ACT from a day on, of souls from one to another one, sparing obits (1) or not (0): how many"
                + " there are. BAD; FULL: 10.").run(
                "read obit soul 5; = 1", "act(9, 5, 5, 1) = 1", "taken(0) = NONE", "act(9, 5, 5, 0) = 2",
                "taken(0) = 9", "act(10000, 5, 5, 0) = BAD", "act(-1, 5, 5, 0) = BAD", "act(9, 6, 5, 0) = BAD",
                "act(9, -1, 5, 0) = BAD", "act(9, 5, 100, 0) = BAD", "act(9, 5, 5, 2) = BAD", "act(9, 5, 5, -1) = BAD",
                "7 x act(9, 0, 99, 0) = 9", "act(9999, 0, 0, 0) = 10", "act(3, 5, 5, 0) = FULL",
                "act(3, 6, 5, 0) = BAD", "taken(0) = 9");
        r.says("30: The day on which a PROMISE is TAKEN; NONE. BAD.").run(
                "taken(0) = BAD", "read mass soul 5 from 3; = 1", "taken(0) = NONE", "act(2, 5, 5, 0) = 1",
                "taken(0) = NONE", "act(3, 5, 5, 0) = 2", "taken(0) = 3", "taken(1) = BAD", "taken(-1) = BAD");
    }

    private static void pension() {
        r.says("31: PENSION of a PRIEST on a day. BAD.").run(
                "read mass priest 2 pays 10 soul 3; = 1", "house(0, 0, 1010) = 0", "pension(2, 9999) = 0",
                "act(400, 3, 3, 0) = 1", "pension(2, 399) = 0", "pension(2, 400) = 50", "pension(1, 400) = 0",
                "pension(0, 400) = 0", "pension(7, 400) = 0", "pension(8, 5) = BAD", "pension(-1, 5) = BAD",
                "pension(2, 10000) = BAD", "pension(2, -1) = BAD");
    }

    private static void bidAndSold() {
        r.says("32: A bid: how many there are. BAD; FULL: 20.").run(
                "bid(0, 0, 1) = 1", "bid(5, 9, 100000) = 2", "bid(6, 0, 1) = BAD", "bid(-1, 0, 1) = BAD",
                "bid(0, 10, 1) = BAD", "bid(0, -1, 1) = BAD", "bid(0, 0, 0) = BAD", "bid(0, 0, 100001) = BAD",
                "18 x bid(0, 0, 1) = 20", "bid(0, 0, 1) = FULL", "bid(0, 0, 0) = BAD", "all(7) = 20");
        r.says("33: To whom a HOUSE is SOLD as of a day. BAD; NONE.").run(
                "read mass soul 1 house 4; = 1", "act(50, 1, 1, 0) = 1", "sold(4, 50) = NONE", "bid(4, 8, 7) = 1",
                "sold(4, 50) = 8", "sold(4, 49) = NONE", "sold(3, 50) = NONE", "sold(6, 50) = BAD",
                "sold(-1, 50) = BAD", "sold(4, 10000) = BAD", "sold(4, -1) = BAD");
    }

    private static void dawn() {
        r.says("34: A DAWN: how many have an HOUR (promise = NONE); the HOUR of a PROMISE; NONE: none, or it is not of"
                + " the set.").run(
                "read mass priest 1; mass priest 2; mass altar 1 priest 1; = 3", "dawn(7, 5, NONE) = 2",
                "dawn(7, 5, 0) = 0", "dawn(7, 5, 1) = 1", "dawn(7, 5, 2) = NONE", "dawn(6, 5, 0) = NONE",
                "dawn(6, 5, 1) = 0", "dawn(6, 5, 2) = 0", "dawn(7, 5, 3) = NONE", "dawn(7, 5, 11) = NONE");
        r.says("34: BAD: the set (0, one that is not there, more than 8), day, PROMISE 0 to 11.").run(
                "read mass soul 1; mass soul 1; mass soul 1; mass soul 1; mass soul 1; = 5",
                "read mass soul 1; mass soul 1; mass soul 1; mass soul 1; = 9", "dawn(0, 5, NONE) = BAD",
                "dawn(512, 5, NONE) = BAD", "dawn(513, 5, NONE) = BAD", "dawn(-1, 5, NONE) = BAD",
                "dawn(MIN, 5, NONE) = BAD", "dawn(511, 5, NONE) = BAD", "dawn(510, 5, NONE) = 1", "dawn(255, 5, 0) = 0",
                "dawn(1, 10000, NONE) = BAD", "dawn(1, -1, NONE) = BAD", "dawn(1, 5, 12) = BAD", "dawn(1, 5, -1) = BAD",
                "dawn(1, 5, 11) = NONE");
    }

    private static void day() {
        r.says("35: THE DAY: what it was. BAD.").run(
                "day(9999) = 0", "day(7) = 9999", "day(10000) = BAD", "day(-1) = BAD", "day(0) = 7", "day(0) = 0");
    }

    private static void kind() {
        r.says("36: The KIND of a PROMISE on THE DAY, as it is told (1 to 4). BAD.").run(
                "kind(0) = BAD", "read mass soul 1; mass soul 2; obit soul 3; mass soul 4 till 5; = 4",
                "join(0, 1, 6) = 1", "kind(0) = 1", "kind(3) = 1", "day(6) = 0", "kind(0) = 2", "kind(1) = 2",
                "kind(2) = 3", "kind(3) = 4", "kind(4) = BAD", "kind(-1) = BAD");
    }

    private static void as() {
        r.says("37: A PROMISE is taken as one of a KIND (0 .. 4): its soul. BAD; KIND: it is no such one (each is a"
                + " PROMISE, JOINED ones are MASSES, too).").run(
                "read mass soul 21; mass soul 22; obit soul 23; mass soul 24; obit soul 25 till 0; = 5",
                "join(0, 1, 1) = 1", "day(1) = 0", "as(0, 0) = 21", "as(0, 1) = 21", "as(0, 2) = 21", "as(0, 3) = KIND",
                "as(0, 4) = KIND", "as(2, 3) = 23", "as(2, 1) = KIND", "as(2, 2) = KIND", "as(3, 1) = 24",
                "as(3, 2) = KIND", "as(3, 3) = KIND", "as(4, 0) = 25", "as(4, 4) = 25", "as(4, 3) = KIND",
                "as(4, 1) = KIND", "as(0, 5) = BAD", "as(0, -1) = BAD", "as(5, 0) = BAD", "as(-1, 0) = BAD");
    }

    private static void ask() {
        r.says("38: An ASK (0, 1) of a PROMISE. BAD. THE TRACE is empty ahead of it.").run(
                "ask(0, 0) = BAD", "read obit soul 3 bread 4; mass soul 5 each 6; = 2", "ask(0, 1) = 367",
                "trace(3) = 10", "trace(4) = NONE", "ask(1, 0) = 7", "trace(0) = 11", "trace(1) = 10",
                "trace(2) = NONE", "ask(1, 1) = 5", "trace(0) = 21", "ask(1, 2) = BAD", "ask(1, -1) = BAD",
                "ask(2, 0) = BAD", "ask(-1, 0) = BAD", "trace(0) = 21");
    }

    private static void trace() {
        r.says("39: Number i of THE TRACE; NONE.").run(
                "trace(0) = NONE", "read obit soul 3 bread 4; = 1", "ask(0, 1) = 367", "trace(0) = 23", "trace(1) = 20",
                "trace(2) = 13", "trace(3) = 10", "trace(4) = NONE", "trace(15) = NONE", "trace(16) = NONE",
                "trace(-1) = NONE", "trace(MAX) = NONE", "trace(MIN) = NONE", "kind(0) = 3", "trace(0) = 23");
    }

    private static void all() {
        r.says("40: How many: 0 SHEETS, 1 PROMISES, 2 FEASTS, 3 LINES, 4 GOOD ones, 5 GONE PROMISES on THE DAY, 6 ACTS,"
                + " 7 bids, 8 bytes on the tape. BAD.").run(
                "read mass soul 1; mass soul 2; obit soul 3 till 3; = 3", "sheet(4, 0, 0) = 0", "sheet(5, 1, 1) = 1",
                "drop(5) = 1", "4 x feast(5, 1) = 4", "5 x say(0, 9, 2) = 4", "say(1, 8, 0) = 5",
                "6 x act(7, 2, 99, 0) = 6", "7 x bid(1, 2, 3) = 7", "feed(0, 8) = 8", "all(0) = 1", "all(1) = 3",
                "all(2) = 4", "all(3) = 6", "all(4) = 1", "all(5) = 0", "day(4) = 0", "all(5) = 1", "day(7) = 4",
                "all(5) = 2", "act(7, 0, 99, 1) = 7", "all(5) = 3", "sheet(0, 0, 1) = 1", "sheet(7, 0, 1) = 1",
                "all(0) = 3", "all(6) = 7", "all(7) = 7", "all(8) = 8", "all(9) = BAD", "all(-1) = BAD");
    }

    private static void status() {
        r.says("41: Of the latest call with a SHEET, or as(), that was not BAD, STATE, FULL: the number of its FINDING;"
                + " 0: it had none, or there was none.").run(
                "status() = 0", "read mass soul 1; = 1", "drop(0) = NULL", "status() = 1", "drop(8) = BAD",
                "status() = 1", "split(0, 5) = STATE", "status() = 1", "say(0, 5, 0) = 0", "status() = 1",
                "as(0, 1) = 1", "status() = 0", "as(0, 3) = KIND", "status() = 3", "sheet(0, 2, 6) = 6", "status() = 0",
                "sheet(0, 2, -1) = SIZE", "status() = 4", "set(0, 0, 0) = 0", "status() = 0", "set(0, 6, 0) = PLACE",
                "status() = 2", "lines(0, 0, 1) = 1", "status() = 0", "lines(0, 4, 1) = PLACE", "status() = 2",
                "vacant(0, 0, 0, 0, 0) = 0", "status() = 0", "vacant(0, 0, 1, 0, 0) = NULL", "status() = 1",
                "sheet(1, 1, 1) = 1", "copy(0, 0, 1, 0, 1) = STORE", "status() = 5", "copy(0, 0, 0, 1, 1) = 1",
                "status() = 0", "as(0, 4) = KIND", "drop(0) = 6", "status() = 0", "as(0, 2) = KIND", "as(0, 7) = BAD",
                "all(0) = 1", "status() = 3");
    }
}
