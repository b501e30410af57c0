/** The terms of the document from their first line on, sentence by sentence, each with a run that it decides. */
final class TermsTest {
    private static final Runs r = new Runs("TermsTest");

    /** The last of the ten is not parted. */
    private static final String[] TEN_JOINS = {"join(0, 1, 0)", "split(0, 1)", "join(0, 1, 1)", "split(0, 2)",
        "join(0, 1, 2)", "split(0, 3)", "join(0, 1, 3)", "split(0, 4)", "join(0, 1, 4)", "split(0, 5)", "join(0, 1, 5)",
        "split(0, 6)", "join(0, 1, 6)", "split(0, 7)", "join(0, 1, 7)", "split(0, 8)", "join(0, 1, 8)", "split(0, 9)",
        "join(0, 1, 9) = 1"};

    public static void main(String[] args) {
        numbers();
        refusals();
        findings();
        sheets();
        days();
        things();
        tape();
        grammar();
        termsOfTexts();
        promisesMade();
        faults();
        feasts();
        wants();
        lines();
        goodByDays();
        goodByOthers();
        sick();
        joined();
        saidAndOwed();
        rents();
        emptyDays();
        comes();
        feedsAndFails();
        spent();
        naming();
        acts();
        ended();
        pensions();
        sold();
        kinds();
        toldAs();
        dawns();
        leastRows();
        sizes();
        marks();
        bodies();
        r.finish();
    }

    private static void numbers() {
        r.says("Numbers go from 0 on.").run(
                "read mass soul 7; = 1", "told(0, 1) = 7", "told(1, 1) = BAD", "say(0, 5, 0) = 0", "say(0, 6, 0) = 1",
                "good(0) = 1", "good(1) = 1", "good(2) = BAD", "sheet(0, 0, 1) = 1", "set(0, 0, 3) = 3",
                "set(0, 1, 3) = PLACE", "ask(0, 1) = 7", "trace(0) = 21", "trace(1) = 20");
        // 199 * 33 / 100 = 65.67, 65 / 2 = 32.5, 199 * 1 / 360 < 1 < 199 * 2 / 360 = 1.1, 199 * 1 / 100 = 1.99.
        r.says("All that is divided is cut towards 0.").run(
                "read mass pays 33; = 1", "house(0, 0, 199) = 0", "comes(0, 0, 0) = 65", "act(0, 0, 99, 0) = 1",
                "pension(0, 0) = 32", "empty(0, 0, 0) = 1", "rent(0, 0) = 199", "empty(0, 0, 1) = 2",
                "rent(0, 0) = 198", "house(0, 1, 1) = 0", "rent(0, 1) = 198", "rent(0, 2) = 197");
    }

    private static void refusals() {
        r.says("Refusals are answers, the first of these that fits: BAD (a number is not as told; there is no such"
                + " thing), STATE (as told), FULL (as told), then FINDINGS").run(
                "read mass soul 1; mass soul 2; mass soul 3; = 3").run(TEN_JOINS).run(
                "join(0, 1, 10000) = BAD", "join(0, 3, 5) = BAD", "join(0, 0, 9) = BAD", "join(0, 1, 9) = STATE",
                "join(0, 2, 9) = STATE", "split(0, 9) = STATE", "split(2, 20) = STATE", "split(0, 10) = 1",
                "join(0, 1, 9) = STATE", "join(0, 1, 10) = FULL", "join(0, 4, 10) = BAD", "lines(0, 0, 0) = BAD",
                "lines(0, 0, 1) = NULL", "copy(0, 0, 8, 0, 0) = BAD", "copy(0, 0, 1, 0, 0) = NULL", "as(3, 9) = BAD",
                "as(0, 3) = KIND", "vacant(0, 0, 0, 0, 5) = BAD", "vacant(0, 0, 0, 0, 4) = NULL");
    }

    private static void findings() {
        r.says("of several the first in time: -1000010 less 1 NULL (a SHEET that is missing), 2 PLACE (no such place of"
                + " a SHEET), 3 KIND (a PROMISE that is not that), 4 SIZE (fewer than none), 5 STORE (SHEETS of two"
                + " LANES).").run(
                "read mass soul 1; = 1", "set(0, 0, 0) = -1000011", "status() = 1", "sheet(0, 1, 2) = 2",
                "set(0, 2, 0) = -1000012", "status() = 2", "as(0, 3) = -1000013", "status() = 3",
                "sheet(0, 1, -1) = -1000014", "status() = 4", "sheet(1, 2, 2) = 2", "copy(0, 0, 1, 0, 1) = -1000015",
                "status() = 5", "copy(0, 9, 2, 0, 1) = NULL", "copy(0, 9, 1, 0, 1) = STORE",
                "copy(0, 9, 0, 0, 1) = PLACE");
        r.says("What is refused, or found, changes nothing but status().").run(
                "read mass soul 1; = 1", "sheet(0, 2, 3) = 3", "set(0, 1, 8) = 8", "sheet(0, 0, -1) = SIZE",
                "status() = 4", "sheet(0, 0, 61) = BAD", "status() = 4", "sheet(0, 3, 1) = BAD", "set(0, 3, 5) = PLACE",
                "status() = 2", "set(8, 0, 0) = BAD", "status() = 2", "lines(0, 0, 1) = 1", "status() = 0",
                "count(0, 7, 1) = 0", "count(0, 8, 1) = 1", "say(0, 0, 5) = BAD", "all(3) = 1", "day(20) = 0",
                "day(10000) = BAD", "day(20) = 20", "vow(0, 3) = 1", "vow(0, 4) = BAD", "vow(0, 3) = 3",
                "price(1, 99) = 1", "price(1, 100) = BAD", "price(1, 99) = 99", "as(0, 4) = KIND", "kind(0) = 1");
    }

    private static void sheets() {
        r.says("SHEETS 0 .. 7 are missing (at first)").run(
                "all(0) = 0", "drop(-1) = BAD", "drop(0) = NULL", "drop(1) = NULL", "drop(2) = NULL", "drop(3) = NULL",
                "drop(4) = NULL", "drop(5) = NULL", "drop(6) = NULL", "drop(7) = NULL", "drop(8) = BAD");
        r.says("or have a LANE (0 bytes, 1 shorts, 2 ints)").run(
                "sheet(0, -1, 1) = BAD", "sheet(0, 0, 1) = 1", "set(0, 0, 127) = 127", "set(0, 0, 511) = -1",
                "sheet(0, 1, 1) = 1", "set(0, 0, 511) = 511", "set(0, 0, 131071) = -1", "sheet(0, 2, 1) = 1",
                "set(0, 0, 131071) = 131071", "set(0, 0, MIN) = MIN", "sheet(0, 3, 1) = BAD");
        r.says("and 0 to 60 ITEMS, 0 at first.").run(
                "sheet(0, 2, 0) = 0", "set(0, 0, 1) = PLACE", "sheet(0, 2, 60) = 60", "set(0, 59, 1) = 1",
                "set(0, 60, 1) = PLACE", "sheet(0, 2, 61) = BAD", "read mass soul 1; = 1", "sheet(1, 2, 3) = 3",
                "lines(1, 0, 1) = 1", "count(0, 0, 1) = 1", "set(1, 0, 9) = 9", "lines(1, 0, 1) = 0",
                "sheet(1, 2, 3) = 3", "lines(1, 0, 1) = 1");
    }

    private static void days() {
        r.says("Days are 0 to 9999;").run(
                "day(-1) = BAD", "day(0) = 0", "day(9999) = 0", "day(10000) = BAD", "day(5) = 9999");
        r.says("a YEAR has 360 of them (0 .. 27).").run(
                "house(0, 0, 360) = 0", "empty(0, 359, 360) = 1", "rent(0, 0) = 359", "rent(0, 1) = 359",
                "rent(0, 2) = 360", "empty(0, 9719, 9999) = 2", "rent(0, 26) = 359", "rent(0, 27) = 80",
                "rent(0, 28) = BAD", "rent(0, -1) = BAD", "spent(27) = 0", "spent(28) = BAD");
    }

    private static void things() {
        r.says("ALTARS 0 .. 3, HOURS 0 .. 4 of a day, PRIESTS 0 .. 7, HOUSES 0 .. 5, SOULS 0 .. 99.").run(
                "read mass altar 0 priest 0 house 0 soul 0; mass altar 3 priest 7 house 5 soul 99; = 2",
                "told(1, 1) = 99", "told(1, 2) = 3", "told(1, 3) = 7", "told(1, 7) = 5",
                "read mass altar 4; = FAULT 11", "fault() = 2", "read mass priest 8; = FAULT 12",
                "read mass house 6; = FAULT 11", "read mass soul 100; = FAULT 10", "say(1, 5, 4) = 0",
                "say(1, 5, 5) = BAD", "say(1, 5, -1) = BAD", "vow(7, 1) = 1", "vow(8, 1) = BAD", "house(5, 0, 1) = 0",
                "house(6, 0, 1) = BAD", "act(5, 0, 99, 0) = 1", "act(5, 0, 100, 0) = BAD", "act(5, -1, 9, 0) = BAD");
        r.says("PROMISES 0 .. 11 (12 at most).").run(
                "read mass soul 1;mass soul 2;mass soul 3;mass soul 4;mass soul 5;mass soul 6; = 6",
                "read mass soul 1;mass soul 2;mass soul 3;mass soul 4;mass soul 5;mass soul 9; = 12", "told(11, 1) = 9",
                "told(12, 1) = BAD", "read mass soul 1; = FAULT 0", "fault() = 3", "all(1) = 12", "read  = 12");
    }

    private static void tape() {
        r.says("DEEDS, texts: THE TAPE has at most 500 bytes;").run(
                "62 x feed(0x2020202020202020, 8) = 496", "feed(32, 5) = FULL", "all(8) = 496",
                "feed(0x20202020, 4) = 500", "feed(32, 1) = FULL", "all(8) = 500", "deeds() = 0", "all(8) = 0");
        r.says("TOKENS: NAMES (letters a to z), NUMBERS (figures, 5 at most), SIGNS ; bytes 32 and 10 between.").run(
                "read masssoul 1; = FAULT 0", "read massz soul 1; = FAULT 0", "read mass{soul 1; = FAULT 4",
                "read Mass soul 1; = FAULT 0", "read mass sOul 1; = FAULT 5", "read mass till 09999; = 1",
                "read mass till 009999; = FAULT 10", "fault() = 1", "read mass soul -1; = FAULT 10", "fault() = 1",
                "read mass soul 1, = FAULT 11", "fault() = 1", "read mass soul 1: = FAULT 11",
                "read mass\tsoul 1; = FAULT 4", "read mass\rsoul 1; = FAULT 4", "read \n mass \n\n soul\n7 \n;\n = 2",
                "told(1, 1) = 7", "read mass soul8altar3;obit soul9; = 4", "told(2, 1) = 8", "told(2, 2) = 3",
                "told(3, 1) = 9");
    }

    private static void grammar() {
        r.says("text: { 'mass' term { term } ';' | 'obit' term { term } ';' }").run(
                "read  = 0", "read  \n = 0", "read mass soul 1; = 1", "read obit soul 1; mass soul 2 altar 1; = 3",
                "read mass; = FAULT 4", "fault() = 1", "read obit ; = FAULT 5", "read ; = FAULT 0",
                "read soul 1; = FAULT 0", "read mass soul 1;; = FAULT 12", "read mass soul 1 = FAULT 11",
                "read mass soul 1 mass soul 2; = FAULT 12", "read 1; = FAULT 0", "read mess soul 1; = FAULT 0",
                "read masses soul 1; = FAULT 0", "all(1) = 3");
        r.says("term: 'soul' NUMBER | 'altar' NUMBER | 'priest' NUMBER").run(
                "read mass soul; = FAULT 9", "fault() = 1", "read mass soul 1 2; = FAULT 12", "fault() = 1",
                "read mass 1; = FAULT 5", "read mass soul altar 1; = FAULT 10", "read mass mass 1; = FAULT 5",
                "read mass souls 1; = FAULT 5", "read mass foul 1; = FAULT 5", "read mass sou 1; = FAULT 5",
                "read mass dole 1; = FAULT 5");
    }

    private static void termsOfTexts() {
        r.says("'each' NUMBER (1 to 360 days)").run(
                "read mass each 1; mass each 360; = 2", "told(0, 4) = 1", "told(1, 4) = 360",
                "read mass each 0; = FAULT 10", "fault() = 2", "read mass each 361; = FAULT 10", "fault() = 2");
        r.says("'from' NUMBER | 'till' NUMBER (a day)").run(
                "read mass from 0 till 0; mass from 9999 till 9999; = 2", "told(1, 5) = 9999", "told(0, 6) = 0",
                "read mass from 10000; = FAULT 10", "fault() = 2", "read mass till 10000; = FAULT 10", "fault() = 2");
        r.says("'house' NUMBER | 'pays' NUMBER (by 100 of the rent: 0 to 100)").run(
                "read mass house 0 pays 0; mass house 5 pays 100; = 2", "told(1, 7) = 5", "told(1, 8) = 100",
                "read mass house 6; = FAULT 11", "fault() = 2", "read mass pays 101; = FAULT 10", "fault() = 2");
        r.says("'bread' NUMBER | 'candle' NUMBER (0 to 99).").run(
                "read mass bread 0 candle 0; obit bread 99 candle 99; = 2", "told(1, 9) = 99", "told(1, 10) = 99",
                "read mass bread 100; = FAULT 11", "fault() = 2", "read mass candle 100; = FAULT 12", "fault() = 2");
    }

    private static void promisesMade() {
        r.says("Each makes a PROMISE, when all is read;").run(
                "read mass soul 1; obit soul 2; mass = FAULT 30", "all(1) = 0", "read mass soul 1; obit soul 2; = 2",
                "told(0, 0) = 0", "told(1, 0) = 1");
        r.says("what is not told is 0, 'each' 1 for a mass, 360 for an obit, 'till' 9999;").run(
                "read mass soul 5 altar 2 each 9 till 3; mass bread 0; obit bread 0; mass till 8; = 4",
                "told(1, 0) = 0", "told(1, 1) = 0", "told(1, 2) = 0", "told(1, 3) = 0", "told(1, 4) = 1",
                "told(1, 5) = 0", "told(1, 6) = 9999", "told(1, 7) = 0", "told(1, 8) = 0", "told(1, 9) = 0",
                "told(1, 10) = 0", "told(2, 4) = 360", "told(2, 6) = 9999", "told(3, 6) = 8", "told(3, 4) = 1");
        r.says("of a term told twice the last one holds.").run(
                "read mass soul 1 each 5 soul 2 each 7 soul 3; = 1", "told(0, 1) = 3", "told(0, 4) = 7",
                "read mass soul 100 soul 2; = FAULT 10");
    }

    private static void faults() {
        r.says("FAULTS, the first TOKEN that has one (its first byte), of one TOKEN the least: 1 it cannot stand there,"
                + " or is none (the end: how many bytes there are);").run(
                "read mass soul 100 altar x; = FAULT 10", "fault() = 2", "read mass soul x altar 9; = FAULT 10",
                "fault() = 1", "read mass 99999; = FAULT 5", "fault() = 1", "read mass soul 100000; = FAULT 10",
                "fault() = 1", "read mass soul 5   = FAULT 13", "fault() = 1", "read mass = FAULT 4",
                "read  mass soul = FAULT 10");
        r.says("2 a NUMBER that is not as told;").run(
                "read mass soul 99 altar 99; = FAULT 19", "fault() = 2", "read mass each 00000; = FAULT 10",
                "fault() = 2", "read mass soul 99999 = FAULT 10", "fault() = 2");
        r.says("3 a PROMISE more than 12, with those that are there (its first word).").run(
                "read mass soul 1;mass soul 2;mass soul 3;mass soul 4;mass soul 5;mass soul 6; = 6",
                "read mass soul 1;mass soul 2;mass soul 3;mass soul 4;mass soul 5; = 11",
                "read mass soul 1;\nmass soul 2; = FAULT 13", "fault() = 3", "all(1) = 11", "read mass soul 1; = 12",
                "read  obit = FAULT 1", "fault() = 3", "read  obits = FAULT 1", "fault() = 1", "all(1) = 12");
    }

    private static void feasts() {
        r.says("FEASTS, as they are told (30 at most): a day, a rank (1, 2);").run(
                "feast(5, 0) = BAD", "feast(5, 3) = BAD", "feast(-1, 1) = BAD", "feast(10000, 1) = BAD",
                "feast(5, 2) = 1", "29 x feast(5, 1) = 30", "feast(6, 1) = FULL", "all(2) = 30");
        r.says("of one day the highest rank holds.").run(
                "read mass soul 1; = 1", "feast(5, 2) = 1", "feast(5, 1) = 2", "count(0, 9, 0) = 9", "feast(7, 1) = 3",
                "count(0, 9, 0) = 9", "feast(7, 2) = 4", "count(0, 9, 0) = 8");
    }

    private static void wants() {
        r.says("A PROMISE WANTS a mass on the days from, from + each, .. up to till:").run(
                "read mass from 10 each 5 till 20; mass from 10 each 5 till 19; mass from 9 till 8; obit from 30; = 4",
                "count(0, 9, 0) = 0", "count(0, 10, 0) = 1", "count(0, 14, 0) = 1", "count(0, 15, 0) = 2",
                "count(0, 19, 0) = 2", "count(0, 20, 0) = 3", "count(0, 9999, 0) = 3", "count(1, 9999, 0) = 2",
                "count(2, 9999, 0) = 0", "count(3, 389, 0) = 1", "count(3, 390, 0) = 2");
        r.says("of these one that is a FEAST of rank 2 is barred").run(
                "read mass from 10 each 5 till 20; = 1", "feast(15, 2) = 1", "feast(16, 2) = 2", "count(0, 15, 0) = 1",
                "count(0, 19, 0) = 1", "count(0, 9999, 0) = 2");
        r.says("one of rank 1 moved to the first day behind it that is no FEAST").run(
                "read mass from 10 each 5 till 20; = 1", "feast(15, 1) = 1", "feast(16, 2) = 2", "feast(17, 1) = 3",
                "count(0, 17, 0) = 1", "count(0, 18, 0) = 2", "count(0, 20, 0) = 3", "feast(9, 2) = 4",
                "feast(10, 2) = 5", "feast(9, 1) = 6", "count(0, 18, 0) = 1", "count(0, 20, 0) = 2");
        r.says("(beyond 9999: barred).").run(
                "read mass from 9997; = 1", "feast(9999, 1) = 1", "count(0, 9999, 0) = 2", "feast(9998, 1) = 2",
                "count(0, 9999, 0) = 1", "feast(9997, 1) = 3", "count(0, 9999, 0) = 0");
        r.says("WANTED till a day: how many WANTS fall on it or ahead (each where it was moved to).").run(
                "read mass from 10 till 11; mass from 10 till 10; = 2", "feast(10, 1) = 1", "count(0, 10, 0) = 0",
                "count(0, 11, 0) = 2", "count(1, 10, 0) = 0", "count(1, 11, 0) = 1");
    }

    private static void lines() {
        r.says("LINES, as they are told (60 at most): a PROMISE, a day, an HOUR.").run(
                "read mass soul 1; = 1", "say(1, 5, 0) = BAD", "say(0, 10000, 0) = BAD", "say(0, 5, 5) = BAD",
                "60 x say(0, 5, 0) = 59", "say(0, 6, 0) = FULL", "all(3) = 60", "all(4) = 1");
        r.says("In order of days, HOURS, of one as told:").run(
                "read mass soul 1; mass soul 2; = 2", "say(0, 5, 3) = 0", "good(0) = 1", "say(1, 5, 1) = 1",
                "good(0) = 0", "good(1) = 1", "say(0, 5, 1) = 2", "good(1) = 1", "good(2) = 0", "say(0, 4, 4) = 3",
                "good(3) = 1", "good(1) = 1", "say(1, 6, 2) = 4", "say(0, 5, 0) = 5", "good(5) = 1", "good(1) = 0",
                "good(4) = 1", "say(0, 6, 1) = 6", "good(4) = 0", "good(6) = 1", "say(0, 4, 3) = 7", "good(7) = 1",
                "good(3) = 0", "all(4) = 3");
    }

    private static void goodByDays() {
        r.says("one is GOOD, if its PROMISE was begun (from) and neither over (till) nor ENDED").run(
                "read mass from 10 till 20; = 1", "say(0, 9, 0) = 0", "say(0, 10, 0) = 1", "say(0, 20, 0) = 2",
                "say(0, 21, 0) = 3", "say(0, 15, 0) = 4", "say(0, 14, 0) = 5", "good(0) = 0", "good(1) = 1",
                "good(2) = 1", "good(3) = 0", "good(4) = 1", "act(15, 0, 0, 0) = 1", "good(4) = 0", "good(5) = 1",
                "good(2) = 0");
        r.says("its PRIEST is not sick that day").run(
                "read mass priest 2; mass altar 1; = 2", "sick(2, 5, 6) = 1", "say(0, 4, 0) = 0", "say(0, 5, 0) = 1",
                "say(0, 6, 0) = 2", "say(0, 7, 0) = 3", "say(1, 5, 0) = 4", "good(0) = 1", "good(1) = 0", "good(2) = 0",
                "good(3) = 1", "good(4) = 1");
    }

    private static void goodByOthers() {
        r.says("no GOOD one of that day and HOUR is at its ALTAR").run(
                "read mass altar 2 priest 0; mass altar 2 priest 1; mass altar 2 priest 2 from 50; = 3",
                "say(0, 5, 0) = 0", "say(1, 5, 0) = 1", "good(1) = 0", "say(1, 5, 1) = 2", "good(2) = 1",
                "say(1, 6, 0) = 3", "good(3) = 1", "say(2, 7, 0) = 4", "say(1, 7, 0) = 5", "good(4) = 0",
                "good(5) = 1");
        r.says("or by its PRIEST").run(
                "read mass altar 0 priest 3; mass altar 1 priest 3; = 2", "vow(3, 3) = 1", "say(0, 5, 0) = 0",
                "say(1, 5, 0) = 1", "say(1, 5, 1) = 2", "good(0) = 1", "good(1) = 0", "good(2) = 1");
        r.says("and its PRIEST has said fewer than VOW GOOD ones that day (VOW of a PRIEST: 1 to 3; 1 at first).").run(
                "read mass soul 1; = 1", "5 x say(0, 5, 0) = 4", "say(0, 5, 1) = 5", "say(0, 5, 2) = 6",
                "say(0, 5, 3) = 7", "good(0) = 1", "good(5) = 0", "vow(0, 2) = 1", "good(5) = 1", "good(6) = 0",
                "vow(0, 3) = 2", "good(6) = 1", "good(7) = 0", "vow(0, 4) = BAD", "vow(0, 0) = BAD", "vow(0, 1) = 3",
                "all(4) = 1", "vow(7, 1) = 1");
    }

    private static void sick() {
        r.says("SICK: a PRIEST from a day to another one (among them), as they are told (20 at most).").run(
                "read mass soul 1; = 1", "say(0, 5, 0) = 0", "say(0, 6, 0) = 1", "sick(0, 6, 5) = BAD",
                "sick(0, 5, 10000) = BAD", "sick(8, 5, 6) = BAD", "sick(1, 5, 6) = 1", "all(4) = 2",
                "sick(0, 6, 6) = 2", "good(0) = 1", "good(1) = 0", "18 x sick(0, 0, 4) = 20", "all(4) = 1",
                "sick(0, 5, 5) = FULL", "all(4) = 1");
    }

    private static void joined() {
        r.says("JOINED: two PROMISES from a day on, till they are PARTED on a later day (on that they are JOINED no"
                + " more)").run(
                "read mass soul 1; mass soul 2; = 2", "join(0, 1, 10) = 1", "split(0, 10) = STATE",
                "split(0, 9) = STATE", "split(1, 12) = 1", "day(9) = 0", "kind(0) = 1", "day(10) = 9", "kind(0) = 2",
                "kind(1) = 2", "day(11) = 10", "kind(1) = 2", "day(12) = 11", "kind(0) = 1", "kind(1) = 1");
        r.says("as they are told (10 at most)").run("read mass soul 1; mass soul 2; = 2").run(TEN_JOINS).run(
                "split(0, 10) = 1", "join(0, 1, 10) = FULL");
        r.says("a GOOD LINE of one while they are JOINED counts for both.").run(
                "read mass altar 0 priest 0; mass altar 1 priest 1; mass altar 2 priest 2; = 3", "join(0, 1, 10) = 1",
                "split(0, 12) = 1", "say(0, 9, 0) = 0", "say(0, 10, 0) = 1", "say(1, 11, 0) = 2", "say(1, 12, 0) = 3",
                "say(1, 11, 1) = 4", "good(4) = 0", "count(0, 20, 1) = 3", "count(1, 20, 1) = 3",
                "count(2, 20, 1) = 0");
    }

    private static void saidAndOwed() {
        r.says("SAID till a day: GOOD LINES till it that count.").run(
                "read mass soul 1; = 1", "say(0, 7, 0) = 0", "say(0, 5, 0) = 1", "say(0, 5, 1) = 2",
                "count(0, 4, 1) = 0", "count(0, 5, 1) = 1", "count(0, 6, 1) = 1", "count(0, 7, 1) = 2",
                "count(0, 9999, 1) = 2");
        r.says("OWED: WANTED less SAID, 0 at least.").run(
                "read mass each 10; = 1", "count(0, 0, 2) = 1", "say(0, 1, 0) = 0", "count(0, 1, 2) = 0",
                "say(0, 2, 0) = 1", "count(0, 2, 0) = 1", "count(0, 2, 1) = 2", "count(0, 2, 2) = 0",
                "count(0, 10, 2) = 0", "count(0, 20, 2) = 1");
    }

    private static void rents() {
        // 999, 900, 810, 729, 657, 592: 729 less 72, 657 less 65.
        r.says("RENT of a HOUSE in YEAR y: its RENT at first (0 to 10000; 0) shrunk y times: each time by SHRINK (0 to"
                + " 100; 0) by 100, cut each;").run(
                "rent(0, 0) = 0", "house(0, 0, 999) = 0", "rent(0, 0) = 999", "rent(0, 27) = 999",
                "house(0, 1, 10) = 0", "rent(0, 0) = 999", "rent(0, 1) = 900", "rent(0, 4) = 657", "rent(0, 5) = 592",
                "rent(1, 0) = 0", "house(0, 1, 100) = 10", "rent(0, 0) = 999", "rent(0, 1) = 0",
                "house(0, 1, 101) = BAD", "house(0, 0, 10001) = BAD", "house(0, 0, -1) = BAD",
                "house(0, 0, 10000) = 999");
        r.says("less REPAIRS of that YEAR").run(
                "house(0, 0, 999) = 0", "house(0, 1, 10) = 0", "repair(0, 4, 7) = 1", "repair(0, 4, 50) = 2",
                "rent(0, 4) = 600", "rent(0, 3) = 729", "rent(0, 5) = 592");
        r.says("less the part of EMPTY days: RENT times EMPTY days in it by 360, cut; 0 at least.").run(
                "house(0, 0, 999) = 0", "house(0, 1, 10) = 0", "empty(0, 1800, 1979) = 1", "rent(0, 5) = 296",
                "repair(0, 5, 100) = 1", "rent(0, 5) = 196", "repair(0, 5, 196) = 2", "rent(0, 5) = 0",
                "repair(0, 5, 1) = 3", "rent(0, 5) = 0", "empty(0, 0, 0) = 2", "rent(0, 0) = 997",
                "empty(0, 0, 359) = 3", "rent(0, 0) = 0");
    }

    private static void emptyDays() {
        r.says("REPAIRS: a HOUSE, a YEAR, a sum (1 to 10000), as they are told (20 at most)").run(
                "house(2, 0, 10000) = 0", "repair(2, 0, 0) = BAD", "repair(2, 0, 10001) = BAD",
                "repair(2, 28, 1) = BAD", "repair(6, 0, 1) = BAD", "repair(2, 0, 10000) = 1", "rent(2, 0) = 0",
                "18 x repair(2, 1, 2) = 19", "repair(2, 27, 1) = 20", "repair(2, 1, 1) = FULL", "rent(2, 1) = 9964",
                "rent(2, 27) = 9999");
        r.says("EMPTY: a HOUSE from a day to another one (among them), as they are told (20 at most; a day that is"
                + " EMPTY twice counts once).").run(
                "house(0, 0, 360) = 0", "house(1, 0, 360) = 0", "empty(0, 5, 4) = BAD", "empty(0, 5, 10000) = BAD",
                "empty(6, 5, 5) = BAD", "empty(0, 5, 14) = 1", "rent(0, 0) = 350", "empty(0, 0, 9) = 2",
                "rent(0, 0) = 345", "empty(0, 20, 20) = 3", "rent(0, 0) = 344", "17 x empty(0, 3, 16) = 20",
                "rent(0, 0) = 342", "empty(0, 30, 40) = FULL", "rent(0, 0) = 342", "rent(1, 0) = 360");
    }

    private static void comes() {
        r.says("COMES to a PROMISE in a YEAR: RENT times 'pays' by 100;").run(
                "read mass house 1 pays 33; mass house 1; mass house 1 pays 100; = 3", "house(1, 0, 199) = 0",
                "comes(0, 0, 0) = 65", "comes(1, 0, 0) = 0", "comes(2, 0, 0) = 199", "house(1, 1, 50) = 0",
                "comes(2, 1, 0) = 100", "comes(0, 1, 0) = 33");
        r.says("to JOINED ones (JOINED on the first day of the YEAR) what comes to both, to each.").run(
                "read mass house 0 pays 33; mass house 1 pays 50; = 2", "house(0, 0, 199) = 0", "house(1, 0, 103) = 0",
                "join(0, 1, 360) = 1", "comes(0, 0, 0) = 65", "comes(1, 0, 0) = 51", "comes(0, 1, 0) = 116",
                "comes(1, 1, 0) = 116", "comes(1, 27, 0) = 116", "split(0, 720) = 1", "comes(0, 1, 0) = 116",
                "comes(0, 2, 0) = 65", "join(0, 1, 721) = 1", "comes(1, 2, 0) = 51", "comes(1, 3, 0) = 116");
    }

    private static void feedsAndFails() {
        r.says("It FEEDS, if that is WAGE or more (0 to 10000; 100 at first).").run(
                "read mass pays 100; = 1", "house(0, 0, 99) = 0", "comes(0, 0, 1) = 0", "house(0, 0, 100) = 99",
                "comes(0, 0, 1) = 1", "price(0, 101) = 100", "comes(0, 0, 1) = 0", "price(0, 0) = 101",
                "house(0, 0, 0) = 100", "comes(0, 0, 1) = 1", "price(0, 10000) = 0", "price(0, 10001) = BAD");
        // 200, 180, 162, 146, 132, 119, 108, 98, 89.
        r.says("FAILS of a mass: the first YEAR, from that of its first day on, in which it does not FEED.").run(
                "read mass pays 100; mass pays 100 from 2879; mass pays 100 from 2880; obit pays 0; = 4",
                "house(0, 0, 200) = 0", "fails(0) = NONE", "house(0, 1, 10) = 0", "fails(0) = 7", "fails(1) = 7",
                "fails(2) = 8", "fails(3) = NONE", "repair(0, 2, 63) = 1", "fails(0) = 2", "fails(1) = 7");
    }

    private static void spent() {
        r.says("SPENT on obits in a YEAR: of each obit for each WANT that falls in it (where it was moved to): 'bread'"
                + " times BREAD, 'candle' times CANDLE (prices 0 to 99; 1 each at first).").run(
                "read obit bread 3 candle 4; mass bread 9; obit from 359 till 400 each 30 bread 10; = 3",
                "spent(0) = 17", "spent(1) = 17", "spent(2) = 7", "feast(359, 1) = 1", "spent(0) = 7", "spent(1) = 27",
                "price(1, 2) = 1", "price(2, 5) = 1", "spent(0) = 26", "spent(1) = 66", "spent(27) = 26",
                "feast(720, 2) = 2", "spent(2) = 0", "price(1, 0) = 2", "price(2, 99) = 5", "spent(0) = 396",
                "price(1, 100) = BAD", "price(2, 100) = BAD");
    }

    private static void naming() {
        r.says("NAMING of a PROMISE: it is VACANT from a day on; PATRONS (0 to 9, in order, up to 4, with so many days"
                + " each: 1 to 400);").run(
                "read mass soul 1; = 1", "sheet(0, 2, 8) = 8", "set(0, 0, 9)", "set(0, 1, 400)", "set(0, 2, 0)",
                "set(0, 3, 1)", "set(0, 4, 9)", "set(0, 5, 2)", "set(0, 6, 5)", "set(0, 7, 3)",
                "vacant(0, 50, 0, 0, 4) = 4", "turn(0, 449) = 9", "turn(0, 450) = 0", "turn(0, 451) = 9",
                "turn(0, 453) = 5", "vacant(0, 50, 0, 0, 5) = BAD", "set(0, 0, 10)", "vacant(0, 50, 0, 0, 1) = BAD",
                "set(0, 0, 9)", "set(0, 1, 401)", "vacant(0, 50, 0, 0, 1) = BAD", "set(0, 1, 0)",
                "vacant(0, 50, 0, 0, 1) = BAD", "set(0, 1, 1)", "vacant(0, 50, 0, 0, 1) = 1", "turn(0, 51) = 10");
        r.says("whose TURN it is on a day: the first one's for its days, then the next one's, ..; then the bishop's"
                + " (10); before it is VACANT nobody's (NONE).").run(
                "read mass soul 1; mass soul 2; = 2", "sheet(0, 2, 4) = 4", "set(0, 0, 7)", "set(0, 1, 2)",
                "set(0, 2, 3)", "set(0, 3, 1)", "turn(0, 100) = NONE", "vacant(0, 100, 0, 0, 2) = 2",
                "turn(0, 99) = NONE", "turn(0, 100) = 7", "turn(0, 101) = 7", "turn(0, 102) = 3", "turn(0, 103) = 10",
                "turn(0, 9999) = 10", "turn(1, 100) = NONE");
    }

    private static void acts() {
        r.says("AN ACT: from a day on all PROMISES are TAKEN that were begun by then, of soul numbers from one to"
                + " another one (among them), but obits, if it spares them.").run(
                "read mass soul 5 from 100; mass soul 10 from 101; obit soul 7; mass soul 11; mass soul 4; = 5",
                "act(100, 5, 10, 1) = 1", "taken(0) = 100", "taken(1) = NONE", "taken(2) = NONE", "taken(3) = NONE",
                "taken(4) = NONE", "act(200, 5, 10, 0) = 2", "taken(1) = 200", "taken(2) = 200", "taken(3) = NONE",
                "taken(4) = NONE", "read mass soul 6; mass soul 6 from 100 till 150; = 7", "taken(5) = 100",
                "taken(6) = 100");
        r.says("The earliest ACT that takes a PROMISE holds (10 ACTS at most).").run(
                "read mass soul 5 from 100; = 1", "act(300, 0, 99, 0) = 1", "taken(0) = 300", "act(200, 5, 5, 1) = 2",
                "taken(0) = 200", "act(250, 5, 5, 1) = 3", "taken(0) = 200", "act(99, 5, 5, 1) = 4", "taken(0) = 200",
                "6 x act(150, 6, 6, 0) = 10", "act(150, 5, 5, 0) = FULL", "taken(0) = 200", "all(6) = 10");
    }

    private static void ended() {
        r.says("A PROMISE ENDED: TAKEN on that day or ahead; or till is ahead of that day.").run(
                "read mass soul 5; mass soul 6 till 90; = 2", "act(100, 5, 5, 0) = 1", "day(99) = 0", "kind(0) = 1",
                "day(100) = 99", "kind(0) = 4", "day(9999) = 100", "kind(0) = 4", "day(90) = 9999", "kind(1) = 1",
                "day(91) = 90", "kind(1) = 4");
    }

    private static void pensions() {
        // 301: 150 and 75; 101: 101 and 50. Shrunk once: 151 (75 and 37) and 51 (51 and 25).
        r.says("PENSION of a PRIEST on a day: over his PROMISES that are TAKEN by then half of what COMES to each in"
                + " the YEAR ahead of the one in which it is TAKEN (YEAR 0, if it is that), cut, added, 200 at"
                + " most.").run(
                "read mass priest 3 pays 50; mass priest 3 soul 1 house 1 pays 100; mass priest 4 pays 100; = 3",
                "house(0, 0, 301) = 0", "house(1, 0, 101) = 0", "house(0, 1, 50) = 0", "house(1, 1, 50) = 0",
                "act(800, 0, 0, 0) = 1", "pension(3, 799) = 0", "pension(3, 800) = 37", "act(900, 1, 1, 0) = 2",
                "pension(3, 899) = 37", "pension(3, 900) = 62", "pension(3, 9999) = 62", "act(719, 1, 1, 0) = 3",
                "pension(3, 800) = 87", "act(359, 0, 1, 0) = 4", "pension(3, 358) = 0", "pension(3, 359) = 125",
                "house(0, 0, 600) = 301", "pension(3, 400) = 200", "pension(4, 400) = 200", "house(0, 0, 398) = 600",
                "pension(4, 400) = 199", "pension(5, 400) = 0");
    }

    private static void sold() {
        r.says("SOLD: bids for a HOUSE (a PERSON 0 to 9, a sum 1 to 100000; 20 at most): it goes to the greatest, of"
                + " several the first told, if there are PROMISES with that HOUSE, and all are TAKEN by a day; NONE"
                + " else.").run(
                "read mass soul 1 house 2; mass soul 2 house 2; = 2", "bid(2, 10, 5) = BAD", "bid(2, 0, 0) = BAD",
                "bid(2, 0, 100001) = BAD", "bid(6, 0, 5) = BAD", "bid(2, 4, 50) = 1", "bid(2, 5, 60) = 2",
                "bid(2, 6, 60) = 3", "bid(3, 7, 100000) = 4", "sold(2, 100) = NONE", "act(90, 1, 1, 0) = 1",
                "sold(2, 100) = NONE", "act(95, 2, 2, 0) = 2", "sold(2, 94) = NONE", "sold(2, 95) = 5",
                "sold(3, 100) = NONE", "sold(0, 100) = NONE", "bid(2, 9, 61) = 5", "sold(2, 95) = 9",
                "15 x bid(2, 8, 61) = 20", "bid(2, 0, 99) = FULL", "sold(2, 95) = 9", "read mass soul 3 house 2; = 3",
                "sold(2, 9999) = NONE");
        r.anew().run(
                "read mass soul 1; = 1", "act(0, 0, 99, 0) = 1", "sold(0, 0) = NONE", "bid(0, 0, 1) = 1",
                "sold(0, 0) = 0");
    }

    private static void kinds() {
        r.says("KINDS of PROMISES on THE DAY (0 at first): 0 PROMISE; 1 MASS, a PROMISE; 2 JOINED, a MASS: JOINED to"
                + " another one; 3 OBIT, a PROMISE; 4 GONE, a PROMISE: ENDED.").run(
                "read mass soul 11; mass soul 12; mass soul 13; obit soul 14; mass soul 15 till 0; = 5",
                "join(1, 2, 1) = 1", "kind(1) = 1", "kind(4) = 1", "day(1) = 0", "kind(0) = 1", "kind(1) = 2",
                "kind(2) = 2", "kind(3) = 3", "kind(4) = 4", "as(0, 0) = 11", "as(0, 1) = 11", "as(0, 2) = KIND",
                "as(0, 3) = KIND", "as(0, 4) = KIND", "as(1, 0) = 12", "as(1, 1) = 12", "as(1, 2) = 12",
                "as(1, 3) = KIND", "as(1, 4) = KIND", "as(3, 0) = 14", "as(3, 1) = KIND", "as(3, 2) = KIND",
                "as(3, 3) = 14", "as(3, 4) = KIND", "as(4, 0) = 15", "as(4, 1) = KIND", "as(4, 2) = KIND",
                "as(4, 3) = KIND", "as(4, 4) = 15");
    }

    private static void toldAs() {
        r.says("It is told as the first that fits of GONE, OBIT, JOINED, MASS: by this it is asked. (JOINED obits are"
                + " OBITS.)").run(
                "read mass soul 1; obit soul 2; mass soul 3; obit soul 4 till 3; = 4", "join(0, 1, 0) = 1",
                "join(2, 3, 0) = 1", "kind(0) = 2", "kind(1) = 3", "kind(2) = 2", "kind(3) = 3", "day(4) = 0",
                "kind(2) = 2", "kind(3) = 4", "act(4, 1, 2, 0) = 1", "kind(0) = 4", "kind(1) = 4", "ask(0, 0) = -1",
                "trace(0) = 14", "ask(2, 0) = 12", "trace(0) = 12", "ask(3, 0) = -4", "trace(0) = 14");
    }

    private static void dawns() {
        r.says("A DAWN: for a set of PROMISES (1 to 8; bits) on a day: each has an HOUR or none:").run(
                "read mass soul 1; mass soul 2 altar 1 priest 1; = 2", "dawn(0, 5, NONE) = BAD",
                "dawn(4, 5, NONE) = BAD", "dawn(1, 5, NONE) = 1", "dawn(2, 5, 1) = 0", "dawn(2, 5, 0) = NONE",
                "dawn(3, 5, NONE) = 2", "dawn(3, 5, 1) = 0");
        r.says("no two at one ALTAR in one HOUR").run(
                "read mass priest 0; mass priest 1; mass priest 2; mass priest 3; mass priest 4; mass priest 5; = 6",
                "dawn(63, 5, NONE) = 5", "dawn(63, 5, 0) = 0", "dawn(63, 5, 1) = 1", "dawn(63, 5, 4) = 4",
                "dawn(63, 5, 5) = NONE", "dawn(62, 5, NONE) = 5", "dawn(62, 5, 5) = 4");
        r.says("no two of one PRIEST in one HOUR, no more than VOW of a PRIEST").run(
                "read mass altar 0; mass altar 1; mass altar 2; mass altar 3; = 4", "dawn(15, 5, NONE) = 1",
                "dawn(15, 5, 0) = 0", "dawn(15, 5, 1) = NONE", "vow(0, 3) = 1", "dawn(15, 5, NONE) = 3",
                "dawn(15, 5, 1) = 1", "dawn(15, 5, 2) = 2", "dawn(15, 5, 3) = NONE");
        r.says("none of a PRIEST who is SICK then").run(
                "read mass priest 1; mass priest 2; = 2", "sick(1, 5, 6) = 1", "dawn(3, 4, NONE) = 2",
                "dawn(3, 5, NONE) = 1", "dawn(3, 5, 0) = NONE", "dawn(3, 5, 1) = 0", "dawn(3, 7, 1) = 1",
                "dawn(1, 6, NONE) = 0");
    }

    private static void leastRows() {
        // Altar 0 has five hours for six: were the first one dealt one, the seventh (its priest's) would have none.
        r.says("so that the most have one;").run(
                "read mass priest 0; mass priest 1; mass priest 2; mass priest 3; mass priest 4; mass priest 5; = 6",
                "read mass altar 1 priest 0; = 7", "dawn(127, 5, NONE) = 6", "dawn(127, 5, 0) = NONE",
                "dawn(127, 5, 1) = 0", "dawn(127, 5, 5) = 4", "dawn(127, 5, 6) = 0");
        r.says("of several the least row: by PROMISES, HOURS 0 to 4, none behind 4.").run(
                "read mass altar 0 priest 0; mass altar 0 priest 1; mass altar 1 priest 0; = 3", "dawn(7, 5, NONE) = 2",
                "dawn(7, 5, 0) = 0", "dawn(7, 5, 1) = 1", "dawn(7, 5, 2) = NONE", "vow(0, 2) = 1",
                "dawn(7, 5, NONE) = 3", "dawn(7, 5, 0) = 0", "dawn(7, 5, 1) = 1", "dawn(7, 5, 2) = 1");
    }

    private static void sizes() {
        r.says("0 SIZE: 10 lent to all PROMISES: each. 11 of MASSES: what 10 gives, and OWED on THE DAY. 12 of JOINED"
                + " ones: what 11 gives, twice. 13 of OBITS: what 10 gives, and bread. 14 of GONE ones: 0 less"
                + " MARK.").run(
                "read mass soul 7 altar 2 each 3; mass soul 8; obit soul 9 altar 3 bread 4 each 50; = 3",
                "read mass soul 6 till 5; = 4", "day(6) = 0", "ask(0, 0) = 6", "trace(0) = 11", "trace(1) = 10",
                "trace(2) = NONE", "join(0, 1, 6) = 1", "ask(0, 0) = 12", "trace(0) = 12", "trace(1) = 11",
                "trace(2) = 10", "trace(3) = NONE", "say(1, 6, 0) = 0", "ask(0, 0) = 10", "ask(1, 0) = 14",
                "ask(2, 0) = 54", "trace(0) = 13", "trace(1) = 10", "trace(2) = NONE", "ask(3, 0) = -6",
                "trace(0) = 14", "trace(1) = 20", "trace(2) = NONE");
    }

    private static void marks() {
        r.says("1 MARK: 20 lent to all PROMISES: soul. 21 of MASSES: what 20 gives, and 100 times the ALTAR. 22 of"
                + " JOINED ones: what 21 gives, and the other one's number. 23 of OBITS: what 20 gives, and SIZE.").run(
                "read mass soul 7 altar 2 each 3; mass soul 8; obit soul 9 altar 3 bread 4 each 50; = 3",
                "read mass soul 6 till 5; = 4", "day(6) = 0", "ask(0, 1) = 207", "trace(0) = 21", "trace(1) = 20",
                "trace(2) = NONE", "join(0, 1, 6) = 1", "ask(0, 1) = 208", "trace(0) = 22", "trace(1) = 21",
                "trace(2) = 20", "trace(3) = NONE", "ask(1, 1) = 8", "ask(2, 1) = 63", "trace(0) = 23", "trace(1) = 20",
                "trace(2) = 13", "trace(3) = 10", "trace(4) = NONE", "ask(3, 1) = 6", "trace(0) = 20",
                "trace(1) = NONE");
    }

    private static void bodies() {
        r.says("ASKS of PROMISES, by BODIES, each of which leaves its number in THE TRACE as it begins (the first"
                + " 16):").run(
                "read obit soul 9 bread 4; mass soul 2; mass soul 3 till 5; = 3", "join(1, 2, 0) = 1",
                "ask(0, 1) = 373", "trace(0) = 23", "trace(1) = 20", "trace(2) = 13", "trace(3) = 10",
                "trace(4) = NONE", "trace(16) = NONE", "ask(1, 0) = 4", "trace(0) = 12", "trace(1) = 11",
                "trace(2) = 10", "trace(3) = NONE", "day(6) = 0", "ask(2, 0) = -3", "trace(0) = 14", "trace(1) = 20",
                "trace(2) = NONE");
        r.says("Of an ask the BODY told for the KIND begins, else that of the nearest KIND that it is, too, else the"
                + " one that is lent; SIZE, MARK within others are asked of the same PROMISE anew.").run(
                "read obit soul 9 bread 4 altar 3 till 5; mass soul 2 altar 1; = 2", "ask(0, 1) = 373", "trace(2) = 13",
                "day(6) = 0", "ask(0, 1) = 9", "trace(0) = 20", "trace(1) = NONE", "ask(0, 0) = -9", "trace(1) = 20",
                "ask(1, 1) = 102", "trace(0) = 21");
    }
}
