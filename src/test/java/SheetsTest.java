/** Promises 1 to 5 and 41: a new object, sheets, and the findings of the calls that take one. */
final class SheetsTest {
    private static final Checks c = new Checks("SheetsTest");

    public static void main(String[] args) {
        newObject();
        sheet();
        set();
        copy();
        drop();
        status();
        c.finish();
    }

    private static void newObject() {
        ChantryRolls x = new ChantryRolls();
        for (int what = 0; what <= 8; what++) {
            c.due("1: all(" + what + ")", x.all(what), 0);
        }
        c.due("1: status", x.status(), 0);
        c.due("1: fault", x.fault(), 0);
        c.due("1: trace", x.trace(0), Checks.NONE);
        for (int sheet = 0; sheet < 8; sheet++) {
            c.due("1: sheets are missing", x.drop(sheet), Checks.NULL);
        }
        for (int priest = 0; priest < 8; priest++) {
            c.due("1: vow", x.vow(priest, 1), 1);
        }
        for (int house = 0; house < 6; house++) {
            c.due("1: rent", x.house(house, 0, 0), 0);
            c.due("1: shrink", x.house(house, 1, 0), 0);
        }
        c.due("1: wage", x.price(0, 0), 100);
        c.due("1: bread", x.price(1, 0), 1);
        c.due("1: candle", x.price(2, 0), 1);
        c.due("1: the day", x.day(5), 0);
        ChantryRolls y = new ChantryRolls();
        y.sheet(0, 0, 4);
        c.due("1: objects do not share", new ChantryRolls().all(0), 0);
    }

    private static void sheet() {
        ChantryRolls x = new ChantryRolls();
        c.due("2: no items", x.sheet(0, 0, 0), 0);
        c.due("2: 60 items", x.sheet(7, 2, 60), 60);
        c.due("2: both there", x.all(0), 2);
        c.due("2: lane 1", x.sheet(3, 1, 5), 5);
        c.allDue("2: BAD", Checks.BAD, x.sheet(-1, 0, 1), x.sheet(8, 0, 1), x.sheet(0, -1, 1), x.sheet(0, 3, 1),
                x.sheet(0, 0, 61), x.sheet(0, 0, Integer.MAX_VALUE), x.sheet(Integer.MIN_VALUE, 0, 1));
        c.due("2: BAD ahead of SIZE, sheet", x.sheet(8, 0, -1), Checks.BAD);
        c.due("2: BAD ahead of SIZE, lane", x.sheet(0, 3, -1), Checks.BAD);
        c.due("2: SIZE", x.sheet(3, 0, -1), Checks.SIZE);
        c.due("2: SIZE, far", x.sheet(3, 0, Integer.MIN_VALUE), Checks.SIZE);
        c.due("2: what is found changes nothing", x.set(3, 4, 70000), 4464);
        c.due("2: in place of what is there", x.sheet(3, 2, 6), 6);
        x.sheet(4, 2, 6);
        x.set(4, 0, 9);
        x.copy(3, 0, 4, 0, 6);
        c.due("2: items are 0 again", itemOf(x, 4, 0), 0);
        x.set(3, 5, 77);
        x.sheet(3, 2, 2);
        x.sheet(3, 2, 6);
        c.due("2: items are 0 after a smaller one", itemOf(x, 3, 5), 0);
    }

    /** Items (of ints) are not told by any call, so one, 0 to 9, is looked at as a patron; -1, if it is no such one. */
    private static int itemOf(ChantryRolls x, int sheet, int i) {
        if (x.all(1) == 0) {
            Checks.deeds(x, "mass soul 1;");
        }
        x.sheet(6, 2, 2);
        x.set(6, 1, 1);
        c.due("an item is copied", x.copy(sheet, i, 6, 0, 1), 1);
        return x.vacant(0, 0, 6, 0, 1) == 1 ? x.turn(0, 0) : -1;
    }

    private static void set() {
        ChantryRolls x = new ChantryRolls();
        x.sheet(0, 0, 3);
        x.sheet(1, 1, 3);
        x.sheet(2, 2, 60);
        c.due("3: byte", x.set(0, 0, 127), 127);
        c.due("3: byte 128", x.set(0, 1, 128), -128);
        c.due("3: byte 511", x.set(0, 2, 511), -1);
        c.due("3: byte -129", x.set(0, 2, -129), 127);
        c.due("3: byte 256", x.set(0, 2, 256), 0);
        c.due("3: short", x.set(1, 0, 32767), 32767);
        c.due("3: short 32768", x.set(1, 1, 32768), -32768);
        c.due("3: short 65536 + 7", x.set(1, 2, 65543), 7);
        c.due("3: int", x.set(2, 0, Integer.MAX_VALUE), Integer.MAX_VALUE);
        c.due("3: int, last place", x.set(2, 59, Integer.MIN_VALUE), Integer.MIN_VALUE);
        c.allDue("3: BAD", Checks.BAD, x.set(-1, 0, 0), x.set(8, 0, 0));
        c.due("3: NULL", x.set(3, 0, 0), Checks.NULL);
        c.due("3: NULL ahead of PLACE", x.set(3, -1, 0), Checks.NULL);
        c.allDue("3: PLACE", Checks.PLACE, x.set(0, -1, 0), x.set(0, 3, 0), x.set(2, 60, 0),
                x.set(0, Integer.MAX_VALUE, 0), x.set(0, Integer.MIN_VALUE, 0));
        x.sheet(4, 0, 0);
        c.due("3: no place at all", x.set(4, 0, 0), Checks.PLACE);
    }

    private static void copy() {
        ChantryRolls x = new ChantryRolls();
        Checks.deeds(x, "mass soul 1;");
        Checks.fill(x, 0, 1, 2, 3, 4, 5, 6);
        c.due("4: copy to one's own, forward", x.copy(0, 0, 0, 1, 5), 5);
        int[] shifted = {1, 1, 2, 3, 4, 5};
        for (int i = 0; i < shifted.length; i++) {
            c.due("4: as they were ahead, " + i, itemOf(x, 0, i), shifted[i]);
        }
        c.due("4: backward", x.copy(0, 1, 0, 0, 5), 5);
        int[] back = {1, 2, 3, 4, 5, 5};
        for (int i = 0; i < back.length; i++) {
            c.due("4: as they were ahead, back, " + i, itemOf(x, 0, i), back[i]);
        }
        x.sheet(1, 2, 4);
        c.due("4: to another", x.copy(0, 3, 1, 2, 2), 2);
        c.due("4: there", itemOf(x, 1, 3), 5);
        c.due("4: not there", itemOf(x, 1, 1), 0);
        c.due("4: none", x.copy(0, 6, 1, 4, 0), 0);
        c.due("4: all", x.copy(1, 0, 0, 0, 4), 4);
        x.sheet(2, 1, 4);
        c.allDue("4: BAD", Checks.BAD, x.copy(-1, 0, 0, 0, 1), x.copy(8, 0, 0, 0, 1), x.copy(0, 0, -1, 0, 1),
                x.copy(0, 0, 8, 0, 1), x.copy(3, 0, 8, 0, 1));
        c.allDue("4: NULL", Checks.NULL, x.copy(3, 0, 0, 0, 1), x.copy(0, 0, 3, 0, 1), x.copy(0, -1, 3, 0, 1));
        c.allDue("4: STORE", Checks.STORE, x.copy(0, 0, 2, 0, 1), x.copy(0, -1, 2, 0, 1), x.copy(2, 0, 0, 0, 99));
        c.allDue("4: PLACE", Checks.PLACE, x.copy(0, -1, 1, 0, 1), x.copy(0, 0, 1, -1, 1), x.copy(0, 0, 1, 0, -1),
                x.copy(0, 6, 1, 0, 1), x.copy(0, 0, 1, 4, 1), x.copy(0, 0, 1, 0, 5), x.copy(0, 7, 1, 0, 0),
                x.copy(0, 0, 1, 5, 0), x.copy(0, 1, 1, 0, Integer.MAX_VALUE),
                x.copy(0, Integer.MAX_VALUE, 1, Integer.MAX_VALUE, Integer.MAX_VALUE));
        c.due("4: what is found changes nothing", itemOf(x, 1, 3), 5);
    }

    private static void drop() {
        ChantryRolls x = new ChantryRolls();
        x.sheet(5, 1, 17);
        c.due("5: how many it had", x.drop(5), 17);
        c.due("5: missing now", x.drop(5), Checks.NULL);
        c.due("5: one less", x.all(0), 0);
        c.due("5: missing for set", x.set(5, 0, 0), Checks.NULL);
        c.allDue("5: BAD", Checks.BAD, x.drop(-1), x.drop(8));
        x.sheet(5, 2, 0);
        c.due("5: one without items is there", x.drop(5), 0);
    }

    private static void status() {
        ChantryRolls x = Checks.with("mass soul 4; obit soul 5;");
        c.due("41: none at first", x.status(), 0);
        x.sheet(0, 0, -1);
        c.due("41: SIZE", x.status(), 4);
        x.sheet(9, 0, 1);
        x.set(-1, 0, 0);
        x.copy(0, 0, 8, 0, 0);
        x.drop(8);
        x.lines(0, 0, 0);
        x.vacant(0, 0, 0, 0, 5);
        x.as(2, 0);
        c.due("41: BAD ones do not count", x.status(), 4);
        x.set(0, 0, 0);
        c.due("41: NULL of set", x.status(), 1);
        x.sheet(0, 0, 6);
        c.due("41: none of sheet", x.status(), 0);
        x.set(0, 6, 1);
        c.due("41: PLACE of set", x.status(), 2);
        x.set(0, 5, 1);
        c.due("41: none of set", x.status(), 0);
        x.sheet(1, 1, 6);
        x.copy(0, 0, 1, 0, 1);
        c.due("41: STORE", x.status(), 5);
        x.copy(0, 0, 0, 1, 2);
        c.due("41: none of copy", x.status(), 0);
        x.copy(0, 0, 0, 1, 9);
        c.due("41: PLACE of copy", x.status(), 2);
        x.drop(1);
        c.due("41: none of drop", x.status(), 0);
        x.copy(0, 0, 1, 0, 1);
        c.due("41: NULL of copy", x.status(), 1);
        x.drop(0);
        x.drop(0);
        c.due("41: NULL of drop", x.status(), 1);
        x.sheet(0, 2, 6);
        x.lines(1, 0, 1);
        c.due("41: NULL of lines", x.status(), 1);
        x.lines(0, 0, 1);
        c.due("41: none of lines", x.status(), 0);
        x.lines(0, 4, 1);
        c.due("41: PLACE of lines", x.status(), 2);
        x.vacant(0, 0, 0, 0, 0);
        c.due("41: none of vacant", x.status(), 0);
        x.vacant(0, 0, 1, 0, 0);
        c.due("41: NULL of vacant", x.status(), 1);
        x.vacant(0, 0, 0, 5, 1);
        c.due("41: PLACE of vacant", x.status(), 2);
        x.vacant(0, 0, 0, 0, 1);
        c.due("41: an item that is BAD does not count", x.status(), 2);
        x.as(0, 1);
        c.due("41: none of as", x.status(), 0);
        x.as(0, 3);
        c.due("41: KIND", x.status(), 3);
        x.say(0, 0, 0);
        x.join(0, 1, 0);
        x.ask(0, 0);
        x.kind(0);
        x.join(0, 1, 5);
        c.due("41: other calls do not count", x.status(), 3);
        x.as(1, 0);
        c.due("41: none of as, again", x.status(), 0);
    }
}
