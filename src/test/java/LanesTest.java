/** Numbers that do not fit the lane of their sheet: the lowest bits are left, and these are what other calls meet. */
final class LanesTest {
    private static final Checks c = new Checks("LanesTest");

    public static void main(String[] args) {
        bytes();
        shorts();
        ints();
        everyByte();
        edgesOfShorts();
        linesOfBytes();
        linesOfShorts();
        patronsOfBytes();
        copied();
        anotherLane();
        c.finish();
    }

    private static ChantryRolls withSheet(int lane) {
        ChantryRolls x = Checks.with("mass soul 1; mass soul 2; mass soul 3;");
        x.sheet(0, lane, 6);
        return x;
    }

    /** Pairs of a number and what the item is then. */
    private static void becomes(int lane, int... pairs) {
        ChantryRolls x = withSheet(lane);
        for (int k = 0; k + 1 < pairs.length; k += 2) {
            c.due("3: lane " + lane + ", " + pairs[k], x.set(0, 5, pairs[k]), pairs[k + 1]);
            c.due("41: that is no finding", x.status(), 0);
        }
    }

    private static void bytes() {
        becomes(0, 0, 0, 1, 1, 126, 126, 127, 127, 128, -128, 129, -127, 255, -1, 256, 0, 257, 1, 383, 127, 384, -128,
                -1, -1, -127, -127, -128, -128, -129, 127, -130, 126, -255, 1, -256, 0, -257, -1, 32767, -1,
                32768, 0, 65535, -1, 65536, 0, Integer.MAX_VALUE, -1, Integer.MIN_VALUE, 0, Integer.MIN_VALUE + 128, -128,
                0x12345678, 0x78, 0x123456F8, -8);
    }

    private static void shorts() {
        becomes(1, 0, 0, 127, 127, 128, 128, 255, 255, 256, 256, 32766, 32766, 32767, 32767, 32768, -32768,
                32769, -32767, 65535, -1, 65536, 0, 65537, 1, 98303, 32767, 98304, -32768, -1, -1, -32767, -32767,
                -32768, -32768, -32769, 32767, -65535, 1, -65536, 0, -65537, -1, 70000, 4464, Integer.MAX_VALUE, -1,
                Integer.MIN_VALUE, 0, Integer.MIN_VALUE + 32768, -32768, 0x12345678, 0x5678);
    }

    private static void ints() {
        becomes(2, 0, 0, 128, 128, 32768, 32768, 65536, 65536, -1, -1, -129, -129, -32769, -32769, Integer.MAX_VALUE,
                Integer.MAX_VALUE, Integer.MIN_VALUE, Integer.MIN_VALUE, 0x12345678, 0x12345678);
    }

    private static void everyByte() {
        ChantryRolls x = withSheet(0);
        for (int v = -250; v < 250; v++) {
            int due = v;
            while (due > 127) {
                due -= 256;
            }
            while (due < -128) {
                due += 256;
            }
            c.due("3: lane 0, " + v, x.set(0, 0, v), due);
        }
    }

    private static void edgesOfShorts() {
        for (int turn = -3; turn <= 3; turn++) {
            ChantryRolls x = withSheet(1);
            for (int v = 32700; v < 32900; v++) {
                c.due("3: lane 1, " + (65536 * turn + v), x.set(0, 0, 65536 * turn + v), v > 32767 ? v - 65536 : v);
            }
        }
    }

    /** 300 is day 44 in a byte; 200 is no day at all; promise 257 is 1, hour 260 is 4. */
    private static void linesOfBytes() {
        ChantryRolls x = withSheet(0);
        int[] items = {257, 300, 260, 0, 200, 0};
        for (int i = 0; i < items.length; i++) {
            x.set(0, i, items[i]);
        }
        c.due("15: the first alone comes", x.lines(0, 0, 2), 1);
        c.due("11: none on day 43", x.count(1, 43, 1), 0);
        c.due("11: one on day 44", x.count(1, 44, 1), 1);
        c.due("16: it is good", x.good(0), 1);
        c.due("14: another one of that day and hour", x.say(0, 44, 4), 1);
        c.due("16: is not", x.good(1), 0);
        x.set(0, 1, 127);
        x.set(0, 2, 0);
        c.due("15: the last day that fits", x.lines(0, 0, 1), 1);
        c.due("11: on day 127", x.count(1, 127, 1) - x.count(1, 126, 1), 1);
        x.set(0, 1, 128);
        c.due("15: the next one is none", x.lines(0, 0, 1), 0);
    }

    /** 65536 + 9999 is day 9999 in a short, 65536 + 10000 is none, 40000 is below 0. */
    private static void linesOfShorts() {
        int[] days = {65536 + 9999, 65536 + 10000, 40000, -65536, -65537, 65536 * 3 + 5};
        int[] came = {1, 0, 0, 1, 0, 1};
        int[] on = {9999, 0, 0, 0, 0, 5};
        for (int k = 0; k < days.length; k++) {
            ChantryRolls x = withSheet(1);
            x.set(0, 1, days[k]);
            c.due("15: day " + days[k], x.lines(0, 0, 1), came[k]);
            c.due("11: said, day " + days[k], x.count(0, on[k], 1), came[k]);
            if (on[k] > 0) {
                c.due("11: not ahead of it, day " + days[k], x.count(0, on[k] - 1, 1), 0);
            }
        }
    }

    /** 400 days do not fit a byte: 400 is -112 there, 511 is -1, 383 is 127, 257 is 1. */
    private static void patronsOfBytes() {
        int[][] items = {{5, 400, 0}, {5, 511, 0}, {5, 383, 127}, {5, 256, 0}, {5, 257, 1}, {5, 128, 0}, {5, 127, 127},
            {256 + 9, 1, 1}, {256 + 10, 1, 0}, {255, 1, 0}};
        for (int[] item : items) {
            ChantryRolls x = withSheet(0);
            x.set(0, 0, item[0]);
            x.set(0, 1, item[1]);
            String what = item[0] + " for " + item[1];
            int days = item[2];
            c.due("27: " + what, x.vacant(0, 10, 0, 0, 1), days == 0 ? Checks.BAD : 1);
            c.due("28: the first day, " + what, x.turn(0, 10), days == 0 ? Checks.NONE : item[0] % 256);
            if (days > 0) {
                c.due("28: the last day, " + what, x.turn(0, 9 + days), item[0] % 256);
                c.due("28: the day behind, " + what, x.turn(0, 10 + days), 10);
            }
        }
    }

    /** What is copied is what the item is, not what was given. */
    private static void copied() {
        ChantryRolls x = withSheet(0);
        x.sheet(1, 0, 6);
        x.set(0, 0, 263);
        x.set(0, 1, 258);
        c.due("4: two bytes", x.copy(0, 0, 1, 2, 2), 2);
        c.due("27: as patron and days", x.vacant(0, 0, 1, 2, 1), 1);
        c.due("28: 263 is 7", x.turn(0, 1), 7);
        c.due("28: 258 is 2", x.turn(0, 2), 10);
    }

    /** A sheet of another lane in place of one: its items are 0, and take the bits of the new lane. */
    private static void anotherLane() {
        ChantryRolls x = withSheet(2);
        c.due("3: an int", x.set(0, 0, 70000), 70000);
        x.sheet(0, 1, 6);
        c.due("3: a short", x.set(0, 1, 70000), 4464);
        x.sheet(0, 0, 6);
        c.due("3: a byte", x.set(0, 2, 70000), 112);
        x.sheet(1, 0, 6);
        c.due("4: of one lane now", x.copy(0, 0, 1, 0, 6), 6);
        c.due("15: items are 0, but for the third", x.lines(1, 0, 2), 1);
        c.due("11: it is day 0, hour 0", x.count(0, 0, 1), 1);
        x.drop(0);
        x.sheet(0, 2, 6);
        c.due("3: an int again", x.set(0, 0, 70000), 70000);
        c.due("4: of two lanes now", x.copy(0, 0, 1, 0, 1), Checks.STORE);
    }
}
