/** As EdgesTest, for what feeds promises, who names their priests, what takes them, and how they are asked then. */
final class EndsTest {
    private static final Checks c = new Checks("EndsTest");
    private static final int NONE = Checks.NONE;

    public static void main(String[] args) {
        cuts();
        feeds();
        joinedOnTheFirstDay();
        failsFromItsYearOn();
        spentByYears();
        spentWhereMoved();
        spentMost();
        turns();
        vacantAnew();
        takenByThen();
        souls();
        earliestActs();
        pensionYears();
        pensionOfYearZero();
        pensionHalves();
        pensionAtMost();
        sold();
        gone();
        kindsInOrder();
        asksOfTheDay();
        trace();
        statusKept();
        faultKept();
        c.finish();
    }

    /** What comes is cut: of 199 half is 99, of 1 it is nothing till all of it is paid. */
    private static void cuts() {
        int[][] rows = {{199, 50, 99}, {1, 99, 0}, {1, 100, 1}, {99, 1, 0}, {100, 1, 1}, {10000, 100, 10000},
            {10000, 0, 0}, {0, 100, 0}, {9999, 99, 9899}};
        for (int[] row : rows) {
            ChantryRolls x = Checks.with("mass house 5 pays " + row[1] + ";");
            x.house(5, 0, row[0]);
            c.due("23: " + row[1] + " by 100 of " + row[0], x.comes(0, 0, 0), row[2]);
        }
    }

    /** One less than WAGE, WAGE, one more. */
    private static void feeds() {
        ChantryRolls x = Checks.with("mass pays 100; obit pays 100;");
        int[][] rows = {{99, 100, 0}, {100, 100, 1}, {101, 100, 1}, {0, 0, 1}, {0, 1, 0}, {1, 1, 1}, {9999, 10000, 0},
            {10000, 10000, 1}};
        for (int[] row : rows) {
            x.house(0, 0, row[0]);
            x.price(0, row[1]);
            c.due("23: " + row[0] + " for a wage of " + row[1], x.comes(0, 27, 1), row[2]);
            c.due("23: of an obit", x.comes(1, 0, 1), row[2]);
            c.due("24: " + row[0] + " for a wage of " + row[1], x.fails(0), row[2] == 1 ? NONE : 0);
            c.due("24: an obit never", x.fails(1), NONE);
        }
    }

    private static void joinedOnTheFirstDay() {
        int[][] rows = {{0, 1, 0, 90}, {0, 1, 1, 50}, {1, 400, 0, 50}, {1, 361, 1, 90}, {359, 361, 1, 90}, {360, 361, 1, 90},
            {361, 9999, 1, 50}, {361, 9999, 2, 90}, {300, 360, 1, 50}, {300, 360, 0, 50}, {9720, 9721, 27, 90},
            {9721, 9999, 27, 50}, {0, 9720, 27, 50}, {0, 9720, 26, 90}, {0, 9721, 27, 90}};
        for (int[] row : rows) {
            ChantryRolls x = Checks.with("mass house 1 pays 50; mass house 2 pays 40;");
            x.house(1, 0, 100);
            x.house(2, 0, 100);
            x.join(1, 0, row[0]);
            x.split(1, row[1]);
            String what = "joined on " + row[0] + ", parted on " + row[1] + ", year " + row[2];
            c.due("23: " + what, x.comes(0, row[2], 0), row[3]);
            c.due("23: to the other one, " + what, x.comes(1, row[2], 0), row[3] == 90 ? 90 : 40);
        }
    }

    /** The rent of house 1 is below the wage in years 0, 3 and 27 alone. */
    private static void failsFromItsYearOn() {
        int[][] rows = {{0, 0}, {359, 0}, {360, 3}, {719, 3}, {1080, 3}, {1439, 3}, {1440, 27}, {9719, 27}, {9720, 27},
            {9999, 27}};
        for (int[] row : rows) {
            ChantryRolls x = Checks.with("mass house 1 pays 100 from " + row[0] + ";");
            x.house(1, 0, 100);
            x.repair(1, 0, 1);
            x.repair(1, 3, 1);
            x.repair(1, 27, 1);
            c.due("24: from " + row[0], x.fails(0), row[1]);
        }
        ChantryRolls y = Checks.with("mass house 1 pays 100 from 1440;mass house 1 pays 100 from 9999;");
        y.house(1, 0, 100);
        y.repair(1, 0, 1);
        y.repair(1, 3, 1);
        c.due("24: fed till year 27", y.fails(0), NONE);
        c.due("24: fed in year 27", y.fails(1), NONE);
    }

    private static void spentByYears() {
        int[][] rows = {{0, 1, 0, 0}, {359, 1, 0, 0}, {360, 0, 1, 0}, {719, 0, 1, 0}, {720, 0, 0, 1}};
        for (int[] row : rows) {
            ChantryRolls x = Checks.with("obit bread 1 from " + row[0] + " till " + row[0] + ";");
            for (int year = 0; year < 3; year++) {
                c.due("26: on day " + row[0] + ", year " + year, x.spent(year), row[year + 1]);
            }
            c.due("26: on day " + row[0] + ", year 27", x.spent(27), 0);
        }
        ChantryRolls x = Checks.with("obit candle 7 from 9719 each 1; mass candle 9 bread 9;");
        c.due("26: none in year 25", x.spent(25), 0);
        c.due("26: one in year 26", x.spent(26), 7);
        c.due("26: 280 in year 27", x.spent(27), 280 * 7);
    }

    private static void spentWhereMoved() {
        ChantryRolls x = Checks.with("obit bread 1 from 359 till 359; obit candle 1 from 9999 till 9999;");
        x.feast(359, 1);
        c.due("26: no more in year 0", x.spent(0), 0);
        c.due("26: but in year 1", x.spent(1), 1);
        c.due("26: in year 27", x.spent(27), 1);
        x.feast(9999, 1);
        c.due("26: moved beyond the last day", x.spent(27), 0);
        for (int day = 360; day < 388; day++) {
            x.feast(day, 2);
        }
        c.due("26: moved further", x.spent(1), 1);
        c.due("10: thirty feasts", x.all(2), 30);
        c.due("11: to day 388", x.count(0, 388, 0) - x.count(0, 387, 0), 1);
    }

    /** Twelve obits each day, with as much of both as can be told, at the highest prices. */
    private static void spentMost() {
        ChantryRolls x = Checks.with("obit each 1 bread 99 candle 99;".repeat(12));
        c.due("26: at 1 each", x.spent(0), 12 * 360 * 198);
        x.price(1, 99);
        x.price(2, 99);
        c.due("26: at 99 each", x.spent(0), 12 * 360 * 2 * 99 * 99);
        c.due("26: in year 27", x.spent(27), 12 * 280 * 2 * 99 * 99);
        x.price(1, 0);
        c.due("26: bread for nothing", x.spent(26), 12 * 360 * 99 * 99);
        x.price(2, 0);
        c.due("26: all for nothing", x.spent(26), 0);
    }

    /** Days of one patron each, to the last day that there is. */
    private static void turns() {
        ChantryRolls x = Checks.with("mass soul 1;");
        Checks.fill(x, 0, 0, 1, 9, 1, 0, 400, 3, 400);
        x.vacant(0, 9500, 0, 0, 4);
        int[][] rows = {{0, NONE}, {9499, NONE}, {9500, 0}, {9501, 9}, {9502, 0}, {9901, 0}, {9902, 3}, {9999, 3}};
        for (int[] row : rows) {
            c.due("28: on day " + row[0], x.turn(0, row[0]), row[1]);
        }
        x.vacant(0, 0, 0, 0, 1);
        c.due("28: vacant on day 0", x.turn(0, 0), 0);
        c.due("28: the bishop's on day 1", x.turn(0, 1), 10);
    }

    /** What is told anew holds alone, also if it is of a later day, or of no patrons. */
    private static void vacantAnew() {
        ChantryRolls x = Checks.with("mass soul 1; mass soul 2;");
        Checks.fill(x, 0, 1, 10, 2, 10);
        x.vacant(1, 100, 0, 0, 2);
        x.vacant(1, 110, 0, 2, 1);
        c.due("28: not yet", x.turn(1, 109), NONE);
        c.due("28: the second alone", x.turn(1, 110), 2);
        c.due("28: the bishop's", x.turn(1, 120), 10);
        x.vacant(1, 90, 0, 0, 0);
        c.due("28: nobody's", x.turn(1, 89), NONE);
        c.due("28: the bishop's at once", x.turn(1, 90), 10);
        c.due("28: never told of 0", x.turn(0, 9999), NONE);
    }

    private static void takenByThen() {
        int[][] rows = {{0, 0, 0}, {1, 0, NONE}, {9, 10, 10}, {10, 10, 10}, {11, 10, NONE}, {9999, 9999, 9999},
            {9999, 9998, NONE}, {0, 9999, 9999}};
        for (int[] row : rows) {
            ChantryRolls x = Checks.with("mass from " + row[0] + "; obit from " + row[0] + " till 0;");
            x.act(row[1], 0, 0, 0);
            c.due("30: from " + row[0] + ", an act of " + row[1], x.taken(0), row[2]);
            c.due("30: an obit, whatever its till", x.taken(1), row[2]);
        }
    }

    private static void souls() {
        int[][] rows = {{10, 20, 9, 0}, {10, 20, 10, 1}, {10, 20, 20, 1}, {10, 20, 21, 0}, {10, 10, 10, 1}, {10, 10, 9, 0},
            {10, 10, 11, 0}, {0, 0, 0, 1}, {0, 0, 1, 0}, {99, 99, 99, 1}, {99, 99, 98, 0}, {0, 99, 0, 1}, {0, 99, 99, 1}};
        for (int[] row : rows) {
            for (int spares = 0; spares <= 1; spares++) {
                ChantryRolls x = Checks.with("mass soul " + row[2] + "; obit soul " + row[2] + ";");
                x.act(5, row[0], row[1], spares);
                String what = "soul " + row[2] + " of " + row[0] + " to " + row[1];
                c.due("30: " + what, x.taken(0), row[3] == 1 ? 5 : NONE);
                c.due("30: an obit, " + what, x.taken(1), row[3] == 1 && spares == 0 ? 5 : NONE);
            }
        }
    }

    /** Whichever is told first, the earliest that takes it holds. */
    private static void earliestActs() {
        ChantryRolls x = Checks.with("mass soul 5 from 100;");
        x.act(200, 0, 99, 0);
        x.act(300, 0, 99, 0);
        c.due("30: told first", x.taken(0), 200);
        x.act(99, 0, 99, 0);
        c.due("30: one that does not take it", x.taken(0), 200);
        x.act(100, 0, 99, 1);
        c.due("30: told last", x.taken(0), 100);
    }

    /** The year ahead of that of the act; year 0 has none ahead. Rents of years 0, 1, 2 ..: 400, 200, 100, 50. */
    private static void pensionYears() {
        int[][] rows = {{0, 200}, {359, 200}, {360, 200}, {719, 200}, {720, 100}, {1079, 100}, {1080, 50}, {1440, 25},
            {9999, 0}};
        for (int[] row : rows) {
            ChantryRolls x = Checks.with("mass priest 7 pays 100;");
            x.house(0, 0, 400);
            x.house(0, 1, 50);
            x.act(row[0], 0, 0, 0);
            c.due("31: taken on " + row[0], x.pension(7, row[0]), row[1]);
            c.due("31: to the end", x.pension(7, 9999), row[1]);
            if (row[0] > 0) {
                c.due("31: ahead of " + row[0], x.pension(7, row[0] - 1), 0);
            }
            c.due("31: another priest", x.pension(6, 9999), 0);
        }
    }

    /** It is year 0 that counts then, with its repairs, its empty days and those joined on its first day. */
    private static void pensionOfYearZero() {
        for (int day = 0; day < 720; day += 359) {
            ChantryRolls x = Checks.with("mass priest 7 pays 50; mass soul 1 pays 50;");
            x.house(0, 0, 360);
            x.act(day, 0, 0, 0);
            c.due("31: half of 180, taken on " + day, x.pension(7, day), 90);
            x.repair(0, 0, 60);
            c.due("31: a repair, taken on " + day, x.pension(7, day), 75);
            x.empty(0, 359, 400);
            c.due("31: an empty day, taken on " + day, x.pension(7, day), 74);
            x.repair(0, 1, 60);
            x.join(1, 0, 0);
            c.due("31: joined on day 0, taken on " + day, x.pension(7, day), 149);
        }
    }

    /** Each half is cut ahead of the sum: of 1 and 1 nothing, of 3 and 3 two. */
    private static void pensionHalves() {
        int[][] rows = {{0, 0}, {1, 0}, {2, 2}, {3, 2}, {4, 4}, {199, 198}, {200, 200}};
        for (int[] row : rows) {
            ChantryRolls x = Checks.with("mass pays 100; obit pays 100;");
            x.house(0, 0, row[0]);
            x.act(0, 0, 0, 0);
            c.due("31: two of " + row[0], x.pension(0, 0), row[1]);
        }
    }

    private static void pensionAtMost() {
        int[][] rows = {{397, 198}, {398, 199}, {399, 199}, {400, 200}, {401, 200}, {402, 200}, {10000, 200}};
        for (int[] row : rows) {
            ChantryRolls x = Checks.with("mass pays 100;");
            x.house(0, 0, row[0]);
            x.act(0, 0, 0, 0);
            c.due("31: of " + row[0], x.pension(0, 0), row[1]);
        }
    }

    private static void sold() {
        ChantryRolls x = Checks.with("mass house 5 soul 1; mass house 5 soul 2; mass house 4 soul 3;");
        x.bid(5, 3, 7);
        x.bid(5, 0, 8);
        x.bid(5, 9, 8);
        x.act(100, 1, 1, 0);
        x.act(200, 2, 2, 0);
        int[][] rows = {{0, NONE}, {99, NONE}, {100, NONE}, {199, NONE}, {200, 0}, {201, 0}, {9999, 0}};
        for (int[] row : rows) {
            c.due("33: on day " + row[0], x.sold(5, row[0]), row[1]);
        }
        c.due("33: none with house 3", x.sold(3, 9999), NONE);
        x.bid(4, 1, 1);
        c.due("33: house 4 is not taken", x.sold(4, 9999), NONE);
        x.bid(5, 2, 9);
        c.due("33: one more is greater", x.sold(5, 200), 2);
        x.bid(5, 4, 9);
        c.due("33: as much, but later told", x.sold(5, 200), 2);
        ChantryRolls y = Checks.with("mass house 0 till 5;");
        y.bid(0, 1, 1);
        c.due("33: over is not taken", y.sold(0, 9999), NONE);
        y.act(9999, 0, 0, 0);
        c.due("33: taken on the last day", y.sold(0, 9999), 1);
        c.due("33: not ahead of it", y.sold(0, 9998), NONE);
    }

    /** Till is ahead of THE DAY, or it is taken on it. */
    private static void gone() {
        ChantryRolls x = Checks.with("mass till 50; mass soul 1 from 60; obit till 0; mass from 9999;");
        x.act(70, 1, 1, 0);
        int[][] rows = {{0, 1, 1, 3, 0}, {1, 1, 1, 4, 1}, {50, 1, 1, 4, 1}, {51, 4, 1, 4, 2}, {69, 4, 1, 4, 2},
            {70, 4, 4, 4, 3}, {9999, 4, 4, 4, 3}};
        for (int[] row : rows) {
            x.day(row[0]);
            for (int promise = 0; promise < 3; promise++) {
                c.due("36: " + promise + " on day " + row[0], x.kind(promise), row[promise + 1]);
                c.due("37: as one that is gone", x.as(promise, 4), row[promise + 1] == 4 ? x.told(promise, 1)
                        : Checks.KIND);
            }
            c.due("36: not begun is not gone", x.kind(3), 1);
            c.due("40: gone on day " + row[0], x.all(5), row[4]);
        }
    }

    /** Of the kinds that fit the first of GONE, OBIT, JOINED, MASS. */
    private static void kindsInOrder() {
        ChantryRolls x = Checks.with("mass soul 1; obit soul 2; mass soul 3 till 99; obit soul 4 till 99;");
        x.join(0, 1, 10);
        x.join(2, 3, 10);
        int[][] rows = {{9, 1, 3, 1, 3}, {10, 2, 3, 2, 3}, {99, 2, 3, 2, 3}, {100, 2, 3, 4, 4}};
        for (int[] row : rows) {
            x.day(row[0]);
            for (int promise = 0; promise < 4; promise++) {
                int kind = row[promise + 1];
                c.due("36: " + promise + " on day " + row[0], x.kind(promise), kind);
                for (int as = 0; as <= 4; as++) {
                    boolean fits = as == 0 || as == kind || as == 1 && kind == 2;
                    c.due("37: " + promise + " as " + as, x.as(promise, as), fits ? promise + 1 : Checks.KIND);
                    c.due("41: " + promise + " as " + as, x.status(), fits ? 0 : 3);
                }
            }
        }
    }

    /** SIZE and MARK on the days next to those on which the kind changes. */
    private static void asksOfTheDay() {
        ChantryRolls x = Checks.with("mass soul 99 altar 3 each 360 from 10 till 500; mass soul 98 from 600;");
        x.join(1, 0, 100);
        x.split(1, 400);
        int[][] rows = {{0, 360, 399}, {9, 360, 399}, {10, 361, 399}, {99, 361, 399}, {100, 722, 400}, {369, 722, 400},
            {370, 724, 400}, {399, 724, 400}, {400, 362, 399}, {500, 362, 399}, {501, -99, 99}};
        for (int[] row : rows) {
            x.day(row[0]);
            c.due("38: size on day " + row[0], x.ask(0, 0), row[1]);
            c.due("38: mark on day " + row[0], x.ask(0, 1), row[2]);
        }
        x.day(100);
        c.due("38: the other one's number is 0", x.ask(1, 1), 98);
        c.due("39: and yet it is one of the joined", x.trace(0), 22);
    }

    private static void trace() {
        ChantryRolls x = Checks.with("obit soul 1;");
        for (int i = -1; i <= 17; i++) {
            c.due("39: empty, " + i, x.trace(i), NONE);
        }
        x.ask(0, 1);
        int[] bodies = {23, 20, 13, 10};
        for (int i = 0; i <= 17; i++) {
            c.due("39: number " + i, x.trace(i), i < 4 ? bodies[i] : NONE);
        }
        x.act(0, 1, 1, 0);
        c.due("39: it stays as it was", x.trace(0), 23);
        x.ask(0, 1);
        c.due("39: the one body of a gone one's mark", x.trace(0), 20);
        c.due("39: no other", x.trace(1), NONE);
    }

    /** Only calls with a sheet, and as(), change it; what is BAD, STATE or FULL does not. */
    private static void statusKept() {
        ChantryRolls x = States.full();
        c.due("41: SIZE", x.status(), 4);
        Calls.makeAll(x, "feed(59, 1)", "feast(0, 1)", "sick(0, 0, 0)", "say(0, 0, 0)", "join(0, 2, 90)",
                "join(2, 3, 90)", "split(5, 9)", "repair(0, 0, 1)", "empty(0, 0, 0)", "act(0, 0, 0, 0)", "bid(0, 0, 1)",
                "sheet(0, 3, 1)", "set(8, 0, 0)", "copy(0, 0, 8, 0, 0)", "drop(-1)", "lines(0, 0, 0)",
                "vacant(0, 0, 0, 0, 5)", "vacant(0, 0, 0, 2, 1)", "as(0, 5)", "as(12, 0)");
        c.due("41: no refusal changes it", x.status(), 4);
        Calls.makeAll(x, "vow(0, 2)", "house(0, 0, 5)", "price(1, 2)", "day(3)", "kind(0)", "ask(0, 0)", "trace(0)",
                "all(0)", "fault()", "deeds()", "told(0, 0)", "count(0, 0, 0)", "good(0)", "rent(0, 0)", "comes(0, 0, 0)",
                "fails(0)", "spent(0)", "turn(0, 0)", "taken(0)", "pension(0, 0)", "sold(0, 0)", "dawn(1, 0, 0)",
                "status()", "split(0, 9999)");
        c.due("41: nor does a call without a sheet", x.status(), 4);
        x.lines(0, 0, 1);
        c.due("41: lines, of which none comes, does", x.status(), 0);
    }

    /** fault() tells of the latest fault; a text that is read leaves it, and so does one that is refused. */
    private static void faultKept() {
        ChantryRolls x = new ChantryRolls();
        c.due("8: before one", x.fault(), 0);
        Checks.deeds(x, "mass soul 1;");
        c.due("8: none", x.fault(), 0);
        Checks.deeds(x, "mass soul 100;");
        c.due("8: 2", x.fault(), 2);
        Checks.deeds(x, "mass soul 1;");
        x.deeds();
        x.feed(0, 9);
        c.due("8: 2 still", x.fault(), 2);
        Checks.deeds(x, "mass soul 1;".repeat(11));
        c.due("8: 3", x.fault(), 3);
        Checks.deeds(x, "mass");
        c.due("8: 1", x.fault(), 1);
    }
}
