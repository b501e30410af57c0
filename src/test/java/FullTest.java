/**
 * The empty and the full of each thing that the document counts: what is answered while it fills, that the last one
 * that is taken holds as the first does, that one more is refused, and that other things still have room then.
 */
final class FullTest {
    private static final Checks c = new Checks("FullTest");
    private static final int NONE = Checks.NONE;
    private static final int FULL = Checks.FULL;

    public static void main(String[] args) {
        noItems();
        sixtyItems();
        eightSheets();
        tape();
        tapeByEights();
        noPromises();
        twelvePromises();
        twelveOfOneText();
        thirteenOfOneText();
        feasts();
        feastsOfOneDay();
        lines();
        linesOfSheets();
        sick();
        joins();
        repairs();
        empties();
        acts();
        bids();
        patrons();
        dawnOfEight();
        callsOfOneObject();
        c.finish();
    }

    private static void noItems() {
        for (int lane = 0; lane <= 2; lane++) {
            ChantryRolls x = Checks.with("mass soul 1;");
            c.due("2: a sheet without items", x.sheet(0, lane, 0), 0);
            c.due("40: it is there", x.all(0), 1);
            c.due("3: it has no place 0", x.set(0, 0, 0), Checks.PLACE);
            c.due("4: none of it", x.copy(0, 0, 0, 0, 0), 0);
            c.due("4: one of it", x.copy(0, 0, 0, 0, 1), Checks.PLACE);
            c.due("15: no line in it", x.lines(0, 0, 1), Checks.PLACE);
            c.due("27: no patron in it", x.vacant(0, 5, 0, 0, 1), Checks.PLACE);
            c.due("27: no patrons", x.vacant(0, 5, 0, 0, 0), 0);
            c.due("28: so the bishop's", x.turn(0, 5), 10);
            c.due("5: how many it had", x.drop(0), 0);
            c.due("40: it is missing", x.all(0), 0);
        }
    }

    private static void sixtyItems() {
        for (int lane = 0; lane <= 2; lane++) {
            ChantryRolls x = Checks.with("mass soul 1;");
            c.due("2: sixty items", x.sheet(0, lane, 60), 60);
            for (int i = 0; i < 60; i++) {
                c.due("3: item " + i, x.set(0, i, i + 1), i + 1);
            }
            c.due("3: no item 60", x.set(0, 60, 1), Checks.PLACE);
            c.due("2: sixty others", x.sheet(1, lane, 60), 60);
            c.due("4: all sixty", x.copy(0, 0, 1, 0, 60), 60);
            c.due("4: sixty-one", x.copy(0, 0, 1, 0, 61), Checks.PLACE);
            c.due("4: by one to the front", x.copy(1, 1, 1, 0, 59), 59);
            c.due("27: items 8 and 9", x.vacant(0, 0, 1, 7, 1), 1);
            c.due("28: the patron", x.turn(0, 8), 9);
            c.due("28: his days are 10", x.turn(0, 9), 9);
            c.due("28: and no more", x.turn(0, 10), 10);
            x.set(1, 58, 3);
            c.due("27: the last two", x.vacant(0, 0, 1, 58, 1), 1);
            c.due("28: the patron of the last two", x.turn(0, 59), 3);
            c.due("28: the last item, 60, is his days", x.turn(0, 60), 10);
            c.due("5: sixty", x.drop(0), 60);
            c.due("2: 61 are too many", x.sheet(0, lane, 61), Checks.BAD);
        }
    }

    private static void eightSheets() {
        ChantryRolls x = new ChantryRolls();
        for (int sheet = 0; sheet < 8; sheet++) {
            c.due("5: missing", x.drop(sheet), Checks.NULL);
            c.due("40: so many", x.all(0), sheet);
            x.sheet(sheet, sheet % 3, 10 + sheet);
        }
        c.due("40: all", x.all(0), 8);
        c.due("2: none more", x.sheet(8, 0, 1), Checks.BAD);
        x.sheet(3, 2, 5);
        c.due("40: in place of one", x.all(0), 8);
        for (int sheet = 7; sheet >= 0; sheet--) {
            c.due("5: dropped", x.drop(sheet), sheet == 3 ? 5 : 10 + sheet);
            c.due("40: left", x.all(0), sheet);
        }
    }

    private static void tape() {
        ChantryRolls x = new ChantryRolls();
        c.due("40: empty", x.all(8), 0);
        c.due("7: nothing is read", x.deeds(), 0);
        c.due("8: without a fault", x.fault(), 0);
        for (int i = 1; i <= 498; i++) {
            x = i % 400 == 1 ? refed(i - 1) : x;
            c.due("6: so many", x.feed(32, 1), i);
        }
        for (int n = 3; n <= 8; n++) {
            c.due("6: " + n + " are too many behind 498", x.feed(0x2020202020202020L, n), FULL);
        }
        c.due("6: none of them came", x.all(8), 498);
        c.due("6: but two", x.feed(0x2020L, 2), 500);
        c.due("6: one too many", x.feed(32, 1), FULL);
        c.due("40: 500", x.all(8), 500);
        c.due("7: all of them read", x.deeds(), 0);
        c.due("6: room again", x.feed(32, 1), 1);
    }

    /** An object may be used for 512 calls, so a tape of many bytes is fed anew, by eights. */
    private static ChantryRolls refed(int bytes) {
        ChantryRolls x = new ChantryRolls();
        Checks.feed(x, " ".repeat(bytes));
        return x;
    }

    private static void tapeByEights() {
        for (int over = 0; over < 8; over++) {
            ChantryRolls x = new ChantryRolls();
            if (over > 0) {
                Checks.feed(x, " ".repeat(over));
            }
            int length = over;
            while (length + 8 <= 500) {
                length += 8;
                c.due("6: by eights, " + over + " over", x.feed(0x2020202020202020L, 8), length);
            }
            c.due("6: eight more, " + over + " over", x.feed(0x2020202020202020L, 8), FULL);
            int room = 500 - length;
            if (room > 0) {
                c.due("6: what there is room for, " + over + " over", x.feed(0x3B3B3B3B3B3B3B3BL, room), 500);
            }
            c.due("6: and no more, " + over + " over", x.feed(59, 1), FULL);
            c.due("7: what was refused is not read, " + over + " over", x.deeds(),
                    room > 0 ? -1000100 - length : 0);
        }
    }

    private static void noPromises() {
        ChantryRolls x = new ChantryRolls();
        c.due("40: none", x.all(1), 0);
        c.due("40: none are gone", x.all(5), 0);
        for (int year = 0; year < 28; year++) {
            c.due("26: nothing spent", x.spent(year), 0);
        }
        x.act(0, 0, 99, 0);
        x.bid(0, 1, 1);
        c.due("31: no pension", x.pension(0, 9999), 0);
        c.due("33: nothing sold", x.sold(0, 9999), NONE);
        Checks.fill(x, 0, 0, 0, 0);
        c.due("15: a line of no promise is passed over", x.lines(0, 0, 1), 0);
        c.due("40: no lines", x.all(3), 0);
    }

    private static void twelvePromises() {
        ChantryRolls x = new ChantryRolls();
        for (int p = 0; p < 12; p++) {
            c.due("40: so many", x.all(1), p);
            c.due("9: not there yet", x.told(p, 1), Checks.BAD);
            c.due("7: one more", Checks.deeds(x, "mass soul " + (50 + p) + ";"), p + 1);
            c.due("9: its soul", x.told(p, 1), 50 + p);
        }
        c.due("7: a thirteenth", Checks.deeds(x, "mass soul 1;"), -1000100);
        c.due("8: a promise more than 12", x.fault(), 3);
        c.due("40: twelve", x.all(1), 12);
        c.due("9: the first", x.told(0, 1), 50);
        c.due("9: the twelfth", x.told(11, 1), 61);
        c.due("7: a text of none is read", Checks.deeds(x, " \n"), 12);
        c.due("14: a line of the twelfth", x.say(11, 5, 0), 0);
        c.due("16: is good", x.good(0), 1);
        c.due("17: joined to the first", x.join(11, 0, 0), 1);
        c.due("38: its mark", x.ask(11, 1), 61);
        c.due("38: the first one's mark", x.ask(0, 1), 50 + 11);
    }

    private static void twelveOfOneText() {
        ChantryRolls x = new ChantryRolls();
        c.due("7: twelve at once", Checks.deeds(x, "obit soul 7;".repeat(12)), 12);
        c.due("8: no fault", x.fault(), 0);
        c.due("26: all of them", x.spent(0), 0);
        c.due("9: the last one", x.told(11, 1), 7);
    }

    /** With those that are there: so the first word too many is the thirteenth of all. */
    private static void thirteenOfOneText() {
        for (int there = 0; there <= 12; there++) {
            ChantryRolls x = new ChantryRolls();
            Checks.deeds(x, "mass soul 1;".repeat(there));
            int place = 12 * (12 - there);
            c.due("7: thirteen with " + there, Checks.deeds(x, "obit soul 2;".repeat(13 - there)), -1000100 - place);
            c.due("8: with " + there, x.fault(), 3);
            c.due("7: none came with " + there, x.all(1), there);
            c.due("7: none is begun either", x.told(there, 0), Checks.BAD);
            c.due("7: a word behind it is not looked at", Checks.deeds(x, "obit soul 2;".repeat(12 - there)
                    + "mass soul 100"), -1000100 - place);
            c.due("8: so it is 3 still", x.fault(), 3);
            c.due("7: one ahead of it is", Checks.deeds(x, "obit 2;" + "obit soul 2;".repeat(13)), there < 12
                    ? -1000105 : -1000100);
            c.due("8: so it is 1, if it is ahead", x.fault(), there < 12 ? 1 : 3);
        }
    }

    private static void feasts() {
        ChantryRolls x = Checks.with("mass from 9969 till 9998;");
        c.due("40: no feasts", x.all(2), 0);
        c.due("11: all wanted", x.count(0, 9999, 0), 30);
        for (int i = 1; i <= 30; i++) {
            c.due("10: so many", x.feast(9968 + i, 1), i);
            c.due("11: all are moved", x.count(0, 9968 + i, 0), 0);
        }
        c.due("10: one more", x.feast(9999, 2), FULL);
        c.due("40: thirty", x.all(2), 30);
        c.due("11: none till the last feast", x.count(0, 9998, 0), 0);
        c.due("11: all on the day behind", x.count(0, 9999, 0), 30);
        c.due("13: others have room", x.sick(0, 0, 0), 1);
    }

    private static void feastsOfOneDay() {
        ChantryRolls x = Checks.with("mass from 5 till 5;");
        for (int i = 1; i < 30; i++) {
            c.due("10: each is counted", x.feast(5, 1), i);
        }
        c.due("11: moved", x.count(0, 6, 0), 1);
        c.due("10: the thirtieth", x.feast(5, 2), 30);
        c.due("11: the highest rank holds", x.count(0, 6, 0), 0);
        c.due("10: none more, though it is one day", x.feast(5, 1), FULL);
    }

    private static void lines() {
        ChantryRolls x = Checks.with("mass soul 1;");
        c.due("40: no lines", x.all(3), 0);
        c.due("40: no good ones", x.all(4), 0);
        c.due("16: no line 0", x.good(0), Checks.BAD);
        c.due("11: none said", x.count(0, 9999, 1), 0);
        for (int line = 0; line < 60; line++) {
            c.due("14: its number", x.say(0, 59 - line, 4), line);
            c.due("16: it is good", x.good(line), 1);
            c.due("16: no line behind it", x.good(line + 1), Checks.BAD);
        }
        c.due("14: one more", x.say(0, 100, 0), FULL);
        c.due("40: sixty", x.all(3), 60);
        c.due("40: all good", x.all(4), 60);
        c.due("11: all said", x.count(0, 59, 1), 60);
        c.due("11: none owed", x.count(0, 59, 2), 0);
        c.due("11: one owed", x.count(0, 60, 2), 1);
        c.due("11: the first day's is the last told", x.count(0, 0, 1), 1);
        x.sick(0, 0, 0);
        c.due("16: the last is judged, too", x.good(59), 0);
        c.due("40: all but it", x.all(4), 59);
    }

    /** What would be FULL is passed over, what would be BAD, too. */
    private static void linesOfSheets() {
        ChantryRolls x = Checks.with("mass soul 1;");
        x.sheet(0, 1, 60);
        for (int line = 0; line < 20; line++) {
            x.set(0, 3 * line + 1, 200 + line);
            x.set(0, 3 * line + 2, line % 2 == 0 ? 0 : 5);
        }
        for (int i = 1; i <= 5; i++) {
            c.due("15: ten of twenty", x.lines(0, 0, 20), 10);
            c.due("40: so many", x.all(3), 10 * i);
        }
        for (int i = 0; i < 7; i++) {
            x.say(0, i, 0);
        }
        c.due("15: three more", x.lines(0, 0, 20), 3);
        c.due("40: sixty", x.all(3), 60);
        c.due("15: none more", x.lines(0, 0, 20), 0);
        c.due("41: that is no finding", x.status(), 0);
        c.due("15: PLACE, though it is full", x.lines(0, 1, 20), Checks.PLACE);
        c.due("15: BAD, though it is full", x.lines(0, 0, 21), Checks.BAD);
        c.due("40: the good ones: ten of the sheet, seven said", x.all(4), 17);
    }

    private static void sick() {
        ChantryRolls x = Checks.with("mass priest 3;");
        for (int day = 0; day < 21; day++) {
            x.say(0, 100 * day, 0);
        }
        c.due("16: he is well", x.all(4), 21);
        for (int i = 1; i <= 20; i++) {
            c.due("13: so many", x.sick(3, 100 * (i - 1), 100 * (i - 1)), i);
            c.due("16: not good", x.good(i - 1), 0);
            c.due("40: so many are good", x.all(4), 21 - i);
            c.due("34: he has no hour", x.dawn(1, 100 * (i - 1), NONE), 0);
        }
        c.due("13: one more", x.sick(3, 2000, 2000), FULL);
        c.due("13: nor another's", x.sick(4, 2000, 2000), FULL);
        c.due("16: the last is good", x.good(20), 1);
        c.due("21: empty houses have room", x.empty(0, 0, 0), 1);
    }

    private static void joins() {
        ChantryRolls x = Checks.with("mass soul 0;".repeat(12));
        for (int i = 0; i < 6; i++) {
            c.due("17: six pairs", x.join(2 * i, 2 * i + 1, 100), 1);
        }
        for (int i = 0; i < 4; i++) {
            c.due("18: parted", x.split(2 * i, 200 + i), 1);
            c.due("17: again", x.join(2 * i + 1, 2 * i, 200 + i), 1);
        }
        c.due("18: parted once more", x.split(0, 300), 1);
        c.due("17: an eleventh", x.join(0, 1, 300), FULL);
        c.due("17: STATE is ahead of it", x.join(0, 2, 300), Checks.STATE);
        c.due("17: BAD is ahead of both", x.join(2, 2, 300), Checks.BAD);
        x.day(299);
        c.due("36: the seventh holds", x.kind(1), 2);
        x.day(300);
        c.due("36: parted", x.kind(1), 1);
        c.due("36: the tenth holds", x.kind(7), 2);
        c.due("38: with the other one's number", x.ask(7, 1), 6);
        c.due("18: the tenth can be parted", x.split(6, 301), 1);
        c.due("18: the sixth, too", x.split(11, 101), 1);
        c.due("17: what is parted stays in the ten", x.join(10, 11, 5000), FULL);
    }

    private static void repairs() {
        ChantryRolls x = new ChantryRolls();
        x.house(5, 0, 10000);
        for (int i = 1; i <= 20; i++) {
            c.due("20: so many", x.repair(5, 27, i), i);
            c.due("22: less all of them", x.rent(5, 27), 10000 - i * (i + 1) / 2);
        }
        c.due("20: one more", x.repair(5, 27, 1), FULL);
        c.due("20: nor another's", x.repair(0, 0, 1), FULL);
        c.due("22: the others hold", x.rent(5, 27), 10000 - 210);
        c.due("21: empty has room", x.empty(0, 0, 0), 1);
        c.due("32: so have bids", x.bid(0, 0, 1), 1);
    }

    private static void empties() {
        ChantryRolls x = new ChantryRolls();
        x.house(0, 0, 360);
        for (int i = 1; i <= 20; i++) {
            c.due("21: so many", x.empty(0, 3600 - 2 * i, 3600 - 2 * i), i);
            c.due("22: a day each", x.rent(0, 9), 360 - i);
        }
        c.due("21: one more", x.empty(0, 3599, 3599), FULL);
        c.due("21: nor another's", x.empty(5, 0, 0), FULL);
        c.due("22: the others hold", x.rent(0, 9), 340);
        c.due("20: repairs have room", x.repair(0, 9, 340), 1);
        c.due("22: nothing left", x.rent(0, 9), 0);
        c.due("13: sickness has room", x.sick(0, 0, 0), 1);
    }

    private static void acts() {
        ChantryRolls x = Checks.with("mass soul 9;mass soul 99;");
        c.due("40: no acts", x.all(6), 0);
        c.due("30: by none", x.taken(0), NONE);
        for (int i = 0; i < 9; i++) {
            c.due("29: so many", x.act(900 - i, i, i, 0), i + 1);
            c.due("30: others' souls", x.taken(0), NONE);
        }
        c.due("29: the tenth", x.act(800, 9, 9, 0), 10);
        c.due("30: it takes", x.taken(0), 800);
        c.due("29: one more", x.act(0, 99, 99, 0), FULL);
        c.due("30: it takes none", x.taken(1), NONE);
        c.due("40: ten", x.all(6), 10);
    }

    private static void bids() {
        ChantryRolls x = Checks.with("mass house 5;");
        x.act(0, 0, 0, 0);
        c.due("40: no bids", x.all(7), 0);
        c.due("33: to nobody", x.sold(5, 0), NONE);
        for (int i = 1; i < 20; i++) {
            c.due("32: so many", x.bid(5, i % 9, i), i);
            c.due("33: to the greatest", x.sold(5, 0), i % 9);
        }
        c.due("32: the twentieth", x.bid(5, 9, 100000), 20);
        c.due("33: to the last", x.sold(5, 0), 9);
        c.due("32: one more", x.bid(5, 0, 100000), FULL);
        c.due("32: nor for another", x.bid(0, 0, 1), FULL);
        c.due("40: twenty", x.all(7), 20);
    }

    private static void patrons() {
        for (int n = 0; n <= 4; n++) {
            ChantryRolls x = Checks.with("mass soul 1;");
            Checks.fill(x, 0, 6, 400, 7, 400, 8, 400, 9, 400, 5, 400);
            c.due("27: " + n + " patrons", x.vacant(0, 8000, 0, 0, n), n);
            c.due("28: nobody's", x.turn(0, 7999), NONE);
            for (int i = 0; i < n; i++) {
                c.due("28: the first day of " + i, x.turn(0, 8000 + 400 * i), 6 + i);
                c.due("28: the last day of " + i, x.turn(0, 8399 + 400 * i), 6 + i);
            }
            c.due("28: then the bishop's", x.turn(0, 8000 + 400 * n), 10);
            c.due("28: to the end", x.turn(0, 9999), 10);
        }
        ChantryRolls y = Checks.with("mass soul 1;");
        Checks.fill(y, 0, 6, 400);
        y.vacant(0, 9999, 0, 0, 1);
        c.due("28: the last day", y.turn(0, 9999), 6);
        c.due("28: ahead of it", y.turn(0, 9998), NONE);
    }

    /** Eight of eight priests at two altars: ten hours are there, and eight are dealt. */
    private static void dawnOfEight() {
        StringBuilder text = new StringBuilder();
        for (int p = 0; p < 12; p++) {
            text.append("mass altar ").append(p % 2).append(" priest ").append(p % 8).append(';');
        }
        ChantryRolls x = Checks.with(text.toString());
        c.due("34: eight of eight", x.dawn(255, 0, NONE), 8);
        c.due("34: the last of them", x.dawn(255, 0, 7), 3);
        c.due("34: the last eight", x.dawn(0xFF0, 0, NONE), 8);
        c.due("34: the twelfth", x.dawn(0xFF0, 0, 11), 3);
        c.due("34: nine", x.dawn(0x1FF, 0, NONE), Checks.BAD);
        c.due("34: 3 and 11 are of one priest", x.dawn(1 << 3 | 1 << 11, 0, NONE), 1);
        ChantryRolls y = Checks.with("mass altar 0 priest 0; mass altar 0 priest 1; mass altar 0 priest 2;"
                + "mass altar 0 priest 3; mass altar 0 priest 4; mass altar 0 priest 5; mass altar 0 priest 6;"
                + "mass altar 0 priest 7;");
        c.due("34: one altar has five hours", y.dawn(255, 0, NONE), 5);
        for (int p = 0; p < 8; p++) {
            c.due("34: the hour of " + p, y.dawn(255, 0, p), p < 5 ? p : NONE);
        }
    }

    /** An object is good for 512 calls: the last one is answered as the first. */
    private static void callsOfOneObject() {
        ChantryRolls x = Checks.with("mass soul 77;");
        for (int call = 4; call <= 512; call++) {
            c.due("call " + call, x.told(0, 1), 77);
        }
    }
}
