/**
 * For each number of each call the least and the largest that is taken, with what is answered then, and the next ones
 * on either side, and the furthest, which are refused. Each is asked of a new object, States.some().
 */
final class BoundsTest {
    private static final Checks c = new Checks("BoundsTest");
    private static final int BAD = Checks.BAD;
    private static final int PLACE = Checks.PLACE;
    private static final int NONE = Checks.NONE;

    public static void main(String[] args) {
        sheets();
        places();
        deeds();
        numbersOfTexts();
        feasts();
        lines();
        itemsOfLines();
        joins();
        houses();
        sums();
        naming();
        itemsOfPatrons();
        acts();
        dawns();
        setsOfTwelve();
        asked();
        c.finish();
    }

    private static int answer(String call, long v) {
        return Calls.make(States.some(), call.replace("_", "" + v));
    }

    /** BAD outside. */
    private static void bounds(String call, int least, int dueOfLeast, int most, int dueOfMost) {
        bounds(call, least, dueOfLeast, most, dueOfMost, BAD, BAD);
    }

    private static void bounds(String call, int least, int dueOfLeast, int most, int dueOfMost, int below, int above) {
        c.due(call + " of the least, " + least, answer(call, least), dueOfLeast);
        c.due(call + " of the largest, " + most, answer(call, most), dueOfMost);
        c.due(call + " of one less, " + (least - 1), answer(call, least - 1), below);
        c.due(call + " of one more, " + (most + 1), answer(call, most + 1), above);
        c.due(call + " of the least int", answer(call, Integer.MIN_VALUE), below);
        c.due(call + " of the largest int", answer(call, Integer.MAX_VALUE), above);
    }

    private static void sheets() {
        bounds("sheet(_, 2, 5)", 0, 5, 7, 5);
        bounds("sheet(0, _, 5)", 0, 5, 2, 5);
        bounds("sheet(0, 2, _)", 0, 0, 60, 60, Checks.SIZE, BAD);
        bounds("set(_, 0, 5)", 0, 5, 7, Checks.NULL);
        bounds("copy(_, 0, 0, 0, 1)", 0, 1, 7, Checks.NULL);
        bounds("copy(0, 0, _, 0, 1)", 0, 1, 7, Checks.NULL);
        bounds("drop(_)", 0, 60, 7, Checks.NULL);
    }

    /** Sheet 0 has 60 items, 1 has six, 3 has none. */
    private static void places() {
        bounds("set(0, _, 5)", 0, 5, 59, 5, PLACE, PLACE);
        bounds("set(1, _, 5)", 0, 5, 5, 5, PLACE, PLACE);
        bounds("copy(0, _, 0, 0, 10)", 0, 10, 50, 10, PLACE, PLACE);
        bounds("copy(0, 0, 0, _, 10)", 0, 10, 50, 10, PLACE, PLACE);
        bounds("copy(0, 20, 0, 0, _)", 0, 0, 40, 40, PLACE, PLACE);
        bounds("copy(0, 0, 0, 20, _)", 0, 0, 40, 40, PLACE, PLACE);
        bounds("copy(0, 0, 0, 0, _)", 0, 0, 60, 60, PLACE, PLACE);
        bounds("copy(0, _, 0, 0, 60)", 0, 60, 0, 60, PLACE, PLACE);
        bounds("copy(0, _, 0, 0, 0)", 0, 0, 60, 0, PLACE, PLACE);
        bounds("copy(0, 0, 0, _, 0)", 0, 0, 60, 0, PLACE, PLACE);
        bounds("copy(0, 0, 3, _, 0)", 0, 0, 0, 0, PLACE, PLACE);
        bounds("copy(3, _, 0, 0, 0)", 0, 0, 0, 0, PLACE, PLACE);
        bounds("copy(3, 0, 0, 0, _)", 0, 0, 0, 0, PLACE, PLACE);
        bounds("lines(0, _, 20)", 0, 20, 0, 20, PLACE, PLACE);
        bounds("lines(0, _, 1)", 0, 1, 57, 1, PLACE, PLACE);
        bounds("vacant(0, 0, 0, _, 0)", 0, 0, 60, 0, PLACE, PLACE);
        bounds("vacant(0, 0, 0, _, 1)", 0, 1, 58, 1, PLACE, PLACE);
        bounds("vacant(0, 0, 0, _, 4)", 0, 4, 52, 4, PLACE, PLACE);
        bounds("vacant(0, 0, 3, _, 0)", 0, 0, 0, 0, PLACE, PLACE);
    }

    /** Eleven bytes are on the tape. */
    private static void deeds() {
        bounds("feed(59, _)", 1, 12, 8, 19);
        bounds("told(_, 1)", 0, 10, 2, 30);
        bounds("told(1, _)", 0, 1, 10, 5);
        long[] words = {0, -1, Long.MIN_VALUE, Long.MAX_VALUE};
        for (long word : words) {
            c.due("6: feed(" + word + ", 8)", Calls.make(States.some(), "feed(" + word + ", 8)"), 19);
        }
    }

    /** Each term's number, least and largest, in all lengths that it may be written in, and those that are none. */
    private static void numbersOfTexts() {
        String[] words = {"soul", "altar", "priest", "each", "from", "till", "house", "pays", "bread", "candle"};
        int[] most = {99, 3, 7, 360, 9999, 9999, 5, 100, 99, 99};
        for (int i = 0; i < words.length; i++) {
            for (String kind : new String[] {"mass ", "obit "}) {
                String ahead = kind + words[i] + " ";
                int least = words[i].equals("each") ? 1 : 0;
                text(ahead, "" + least, i + 1, least);
                text(ahead, "0000" + least, i + 1, least);
                text(ahead, "" + most[i], i + 1, most[i]);
                text(ahead, "0" + most[i], i + 1, most[i]);
                text(ahead, ("0000" + most[i]).substring(("" + most[i]).length() - 1), i + 1, most[i]);
                faulty(ahead, "" + (most[i] + 1), 2);
                faulty(ahead, "99999", 2);
                faulty(ahead, "00000" + least, 1);
                faulty(ahead, "100000", 1);
                faulty(ahead, "-1", 1);
                faulty(ahead, "99999999999999999999", 1);
            }
        }
        faulty("mass each ", "0", 2);
        faulty("obit each ", "00000", 2);
    }

    private static void text(String ahead, String number, int what, int due) {
        ChantryRolls x = new ChantryRolls();
        c.due("7: " + ahead + number, Checks.deeds(x, ahead + number + ";"), 1);
        c.due("9: " + ahead + number, x.told(0, what), due);
        c.due("8: " + ahead + number, x.fault(), 0);
    }

    private static void faulty(String ahead, String number, int due) {
        ChantryRolls x = new ChantryRolls();
        c.due("7: " + ahead + number, Checks.deeds(x, ahead + number + ";"), -1000100 - ahead.length());
        c.due("8: " + ahead + number, x.fault(), due);
        c.due("7: none of " + ahead + number, x.all(1), 0);
    }

    /** Promise 0 wants a mass each fifth day from 10 on; that of day 15 is moved to 16; one of two lines is good. */
    private static void feasts() {
        bounds("feast(_, 1)", 0, 2, 9999, 2);
        bounds("feast(5, _)", 1, 2, 2, 2);
        bounds("count(_, 20, 0)", 0, 3, 2, 0);
        bounds("count(0, _, 0)", 0, 0, 9999, 999);
        bounds("count(0, 20, _)", 0, 3, 2, 2);
    }

    private static void lines() {
        bounds("vow(_, 1)", 0, 1, 7, 1);
        bounds("vow(1, _)", 1, 2, 3, 2);
        bounds("sick(_, 5, 6)", 0, 2, 7, 2);
        bounds("sick(0, _, 9999)", 0, 2, 9999, 2);
        bounds("sick(0, 0, _)", 0, 2, 9999, 2);
        bounds("sick(0, 70, _)", 70, 2, 9999, 2);
        bounds("sick(0, _, 70)", 0, 2, 70, 2);
        bounds("say(_, 5, 0)", 0, 3, 2, 3);
        bounds("say(0, _, 0)", 0, 3, 9999, 3);
        bounds("say(0, 5, _)", 0, 3, 4, 3);
        bounds("lines(_, 0, 1)", 0, 1, 7, Checks.NULL);
        bounds("lines(0, 0, _)", 1, 1, 20, 20);
        bounds("good(_)", 0, 1, 2, 0);
    }

    /** Of a line that would be BAD none comes; the line behind it does. */
    private static void itemsOfLines() {
        int[][] taken = {{0, 0, 0}, {2, 9999, 4}, {0, 9999, 0}, {2, 0, 4}};
        int[][] passed = {{-1, 0, 0}, {3, 0, 0}, {0, -1, 0}, {0, 10000, 0}, {0, 0, -1}, {0, 0, 5},
            {Integer.MIN_VALUE, 0, 0}, {Integer.MAX_VALUE, 0, 0}, {0, Integer.MIN_VALUE, 0},
            {0, Integer.MAX_VALUE, 0}, {0, 0, Integer.MIN_VALUE}, {0, 0, Integer.MAX_VALUE}, {-1, -1, -1}};
        for (int[] line : taken) {
            itemsOfLine(line, 2);
        }
        for (int[] line : passed) {
            itemsOfLine(line, 1);
        }
    }

    private static void itemsOfLine(int[] line, int due) {
        ChantryRolls x = States.some();
        Checks.fill(x, 5, line[0], line[1], line[2], 1, 700, 3);
        String what = line[0] + ", " + line[1] + ", " + line[2];
        c.due("15: " + what, x.lines(5, 0, 2), due);
        c.due("15: lines behind " + what, x.all(3), 3 + due);
        c.due("15: the one behind " + what, x.good(2 + due), 1);
        c.due("41: behind " + what, x.status(), 0);
    }

    /** 0 and 2 are joined from day 500 on. */
    private static void joins() {
        ChantryRolls x = States.some();
        x.split(0, 501);
        c.due("17: the least day that may be", x.join(0, 1, 501), 1);
        x = States.some();
        x.split(0, 501);
        c.due("17: one day less", x.join(0, 1, 500), Checks.STATE);
        c.due("17: the largest day", x.join(0, 1, 9999), 1);
        bounds("join(_, 1, 0)", 0, Checks.STATE, 2, Checks.STATE);
        bounds("join(1, _, 0)", 0, Checks.STATE, 2, Checks.STATE);
        bounds("join(0, 1, _)", 0, Checks.STATE, 9999, Checks.STATE);
        bounds("split(_, 501)", 0, 1, 2, 1);
        bounds("split(0, _)", 0, Checks.STATE, 9999, 1);
        c.due("18: the day it was joined on", answer("split(0, _)", 500), Checks.STATE);
        c.due("18: the day behind it", answer("split(0, _)", 501), 1);
        ChantryRolls y = Checks.with("mass soul 1;mass soul 2;mass soul 3;");
        c.due("17: on day 0", y.join(2, 0, 0), 1);
        c.due("18: on day 0 it cannot be parted", y.split(2, 0), Checks.STATE);
        c.due("18: on day 1 it can", y.split(2, 1), 1);
        c.due("17: on the last day", y.join(0, 1, 9999), 1);
    }

    private static void houses() {
        bounds("house(_, 0, 5)", 0, 0, 5, 0);
        bounds("house(1, _, 5)", 0, 1000, 1, 10);
        bounds("house(1, 0, _)", 0, 1000, 10000, 1000);
        bounds("house(1, 1, _)", 0, 10, 100, 10);
        bounds("repair(_, 0, 5)", 0, 2, 5, 2);
        bounds("repair(0, _, 5)", 0, 2, 27, 2);
        bounds("repair(0, 0, _)", 1, 2, 10000, 2);
        bounds("empty(_, 0, 5)", 0, 2, 5, 2);
        bounds("empty(0, _, 9999)", 0, 2, 9999, 2);
        bounds("empty(0, 0, _)", 0, 2, 9999, 2);
        bounds("empty(0, 70, _)", 70, 2, 9999, 2);
        bounds("empty(0, _, 70)", 0, 2, 70, 2);
        bounds("rent(_, 0)", 0, 0, 5, 0);
        bounds("rent(2, _)", 0, 500, 27, 500);
        bounds("comes(_, 0, 0)", 0, 500, 2, 400);
        bounds("comes(1, _, 0)", 0, 150, 27, 150);
        bounds("comes(1, 0, _)", 0, 150, 1, 1);
        // House 1 in years 17, 18: 171, 154; of these come to the joined ones 85 and 68, 77 and 61.
        bounds("fails(_)", 0, 18, 2, 18);
    }

    private static void sums() {
        bounds("price(_, 5)", 0, 150, 2, 7);
        bounds("price(0, _)", 0, 150, 10000, 150);
        bounds("price(1, _)", 0, 3, 99, 3);
        bounds("price(2, _)", 0, 7, 99, 7);
        bounds("spent(_)", 0, 4 * 3 + 5 * 7, 27, 4 * 3 + 5 * 7);
    }

    /** Promise 0 is vacant from day 100 on. */
    private static void naming() {
        bounds("vacant(_, 0, 0, 0, 1)", 0, 1, 2, 1);
        bounds("vacant(0, _, 0, 0, 1)", 0, 1, 9999, 1);
        bounds("vacant(0, 0, _, 0, 1)", 0, 1, 7, Checks.NULL);
        bounds("vacant(0, 0, 0, 0, _)", 0, 0, 4, 4);
        bounds("turn(_, 100)", 0, 1, 2, NONE);
        bounds("turn(0, _)", 0, NONE, 9999, 10);
    }

    private static void itemsOfPatrons() {
        int[][] taken = {{0, 1}, {0, 400}, {9, 1}, {9, 400}};
        int[][] bad = {{-1, 1}, {10, 1}, {0, 0}, {0, 401}, {0, -1}, {-1, 0}, {10, 401}, {Integer.MIN_VALUE, 1},
            {Integer.MAX_VALUE, 1}, {0, Integer.MIN_VALUE}, {0, Integer.MAX_VALUE}};
        for (int[] pair : taken) {
            ChantryRolls x = patrons(pair);
            String what = pair[0] + " for " + pair[1];
            c.due("27: " + what, x.vacant(2, 50, 5, 0, 4), 4);
            c.due("28: his first day, " + what, x.turn(2, 53), pair[0]);
            c.due("28: his last day, " + what, x.turn(2, 52 + pair[1]), pair[0]);
            c.due("28: the bishop behind " + what, x.turn(2, 53 + pair[1]), 10);
        }
        for (int[] pair : bad) {
            ChantryRolls x = patrons(pair);
            String what = pair[0] + " for " + pair[1];
            c.due("27: the last is " + what, x.vacant(2, 50, 5, 0, 4), BAD);
            c.due("27: the only one is " + what, x.vacant(2, 50, 5, 6, 1), BAD);
            c.due("28: behind " + what, x.turn(2, 60), NONE);
            c.due("27: without " + what, x.vacant(2, 50, 5, 0, 3), 3);
        }
    }

    private static ChantryRolls patrons(int[] last) {
        ChantryRolls x = States.some();
        Checks.fill(x, 5, 3, 1, 4, 1, 5, 1, last[0], last[1]);
        return x;
    }

    private static void acts() {
        bounds("act(_, 0, 99, 0)", 0, 2, 9999, 2);
        bounds("act(0, _, 99, 0)", 0, 2, 99, 2);
        bounds("act(0, 0, _, 0)", 0, 2, 99, 2);
        bounds("act(0, _, 50, 0)", 0, 2, 50, 2);
        bounds("act(0, 50, _, 0)", 50, 2, 99, 2);
        bounds("act(0, 0, 99, _)", 0, 2, 1, 2);
        bounds("taken(_)", 0, 6000, 2, NONE);
        bounds("pension(_, 9999)", 0, 0, 7, 0);
        // House 1 in year 15: 209; of that come to 0 and 2, which are joined, 104 and 83.
        bounds("pension(1, _)", 0, 0, 9999, 93);
        bounds("bid(_, 0, 5)", 0, 2, 5, 2);
        bounds("bid(0, _, 5)", 0, 2, 9, 2);
        bounds("bid(0, 0, _)", 1, 2, 100000, 2);
        bounds("sold(_, 0)", 0, NONE, 5, NONE);
        bounds("sold(1, _)", 0, NONE, 9999, NONE);
    }

    private static void dawns() {
        bounds("dawn(_, 0, NONE)", 1, 1, 7, 3);
        bounds("dawn(7, _, NONE)", 0, 3, 9999, 3);
        bounds("dawn(7, 0, _)", 0, 0, 11, NONE);
        c.due("34: one less than NONE", answer("dawn(7, 0, _)", NONE - 1), BAD);
        c.due("34: one more than NONE", answer("dawn(7, 0, _)", NONE + 1), BAD);
        c.due("34: the last of them", answer("dawn(7, 0, _)", 2), 0);
        c.due("34: one that is not there", answer("dawn(7, 0, _)", 3), NONE);
    }

    /** All sets of twelve promises, and some beyond: those of one to eight are taken. */
    private static void setsOfTwelve() {
        ChantryRolls x = null;
        for (int set = -2; set < 4100; set++) {
            if (x == null || set % 400 == 0) {
                x = Checks.with("mass soul 1;".repeat(12));
            }
            boolean fits = set > 0 && set < 4096 && Integer.bitCount(set) <= 8;
            c.due("34: set " + set, x.dawn(set, 0, NONE), fits ? 1 : BAD);
        }
        for (int bit = 12; bit < 32; bit++) {
            c.due("34: bit " + bit, x.dawn(1 << bit, 0, NONE), BAD);
            c.due("34: bit " + bit + " with one that is there", x.dawn(1 << bit | 1, 0, NONE), BAD);
        }
    }

    /** Four bodies are in the trace: 23, 20, 13, 10. */
    private static void asked() {
        bounds("day(_)", 0, 600, 9999, 600);
        bounds("kind(_)", 0, 2, 2, 2);
        bounds("as(_, 0)", 0, 10, 2, 30);
        bounds("as(0, _)", 0, 10, 4, Checks.KIND);
        bounds("ask(_, 1)", 0, 10 + 100 + 2, 2, 30 + 300);
        bounds("ask(1, _)", 0, 360 + 4, 1, 20 + 360 + 4);
        bounds("trace(_)", 0, 23, 3, 10, NONE, NONE);
        bounds("all(_)", 0, 4, 8, 11);
    }
}
