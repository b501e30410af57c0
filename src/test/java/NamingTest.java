/** Promises 27 to 33: who names the next priest, acts, pensions, bids and sales. */
final class NamingTest {
    private static final Checks c = new Checks("NamingTest");

    public static void main(String[] args) {
        vacant();
        turn();
        act();
        taken();
        pension();
        bid();
        sold();
        c.finish();
    }

    private static void vacant() {
        ChantryRolls x = Checks.with("mass soul 1;");
        Checks.fill(x, 0, 9, 400, 0, 1, 10, 5, -1, 5, 3, 0, 3, 401);
        c.allDue("27: BAD", Checks.BAD, x.vacant(-1, 0, 0, 0, 1), x.vacant(1, 0, 0, 0, 1), x.vacant(0, -1, 0, 0, 1),
                x.vacant(0, 10000, 0, 0, 1), x.vacant(0, 0, -1, 0, 1), x.vacant(0, 0, 8, 0, 1),
                x.vacant(0, 0, 0, 0, -1), x.vacant(0, 0, 0, 0, 5), x.vacant(0, 0, 1, 0, 5));
        c.due("27: NULL", x.vacant(0, 0, 1, 0, 1), Checks.NULL);
        c.due("27: NULL, even for none", x.vacant(0, 0, 1, 0, 0), Checks.NULL);
        c.due("27: NULL ahead of PLACE", x.vacant(0, 0, 1, -1, 1), Checks.NULL);
        c.allDue("27: PLACE", Checks.PLACE, x.vacant(0, 0, 0, -1, 1), x.vacant(0, 0, 0, 11, 1),
                x.vacant(0, 0, 0, 5, 4), x.vacant(0, 0, 0, 13, 0), x.vacant(0, 0, 0, Integer.MAX_VALUE, 4),
                x.vacant(0, 0, 0, -1, 0));
        c.due("27: still not vacant", x.turn(0, 9999), Checks.NONE);
        c.due("27: two", x.vacant(0, 10, 0, 0, 2), 2);
        c.allDue("27: an item is BAD", Checks.BAD, x.vacant(0, 0, 0, 4, 1), x.vacant(0, 0, 0, 6, 1),
                x.vacant(0, 0, 0, 8, 1), x.vacant(0, 0, 0, 10, 1), x.vacant(0, 0, 0, 0, 3), x.vacant(0, 0, 0, 0, 4));
        c.due("27: what is BAD changes nothing", x.turn(0, 9), Checks.NONE);
        c.due("27: nor the patrons", x.turn(0, 10), 9);
        c.due("27: PLACE ahead of an item", x.vacant(0, 0, 0, 10, 2), Checks.PLACE);
        c.due("27: none, at the end of the sheet", x.vacant(0, 20, 0, 12, 0), 0);
        c.due("27: in place of what was told", x.turn(0, 19), Checks.NONE);
        c.due("27: the bishop's at once", x.turn(0, 20), 10);
    }

    private static void turn() {
        ChantryRolls x = Checks.with("mass soul 1; mass soul 2;");
        c.allDue("28: BAD", Checks.BAD, x.turn(-1, 0), x.turn(2, 0), x.turn(0, -1), x.turn(0, 10000));
        c.due("28: never told", x.turn(0, 9999), Checks.NONE);
        Checks.fill(x, 3, 99, 5, 1, 6, 10, 5, 100, 7, 400);
        x.vacant(0, 50, 3, 1, 4);
        int[][] turns = {{0, Checks.NONE}, {49, Checks.NONE}, {50, 5}, {51, 6}, {60, 6}, {61, 5}, {160, 5}, {161, 7},
            {560, 7}, {561, 10}, {9999, 10}};
        for (int[] turn : turns) {
            c.due("28: on day " + turn[0], x.turn(0, turn[0]), turn[1]);
        }
        c.due("28: another promise", x.turn(1, 60), Checks.NONE);
        x.vacant(1, 0, 3, 1, 2);
        c.due("28: two of the four", x.turn(1, 10), 6);
        c.due("28: then the bishop, not the third", x.turn(1, 11), 10);
        x.vacant(1, 0, 3, 1, 1);
        c.due("28: one of the four", x.turn(1, 1), 10);
        x.set(3, 1, 8);
        x.drop(3);
        c.due("28: the sheet is needed no more", x.turn(0, 50), 5);
        Checks.fill(x, 3, 2, 3);
        x.vacant(0, 0, 3, 0, 1);
        c.due("28: fewer patrons than ahead", x.turn(0, 2), 2);
        c.due("28: then the bishop", x.turn(0, 3), 10);
    }

    private static void act() {
        ChantryRolls x = new ChantryRolls();
        c.allDue("29: BAD", Checks.BAD, x.act(-1, 0, 0, 0), x.act(10000, 0, 0, 0), x.act(0, -1, 0, 0),
                x.act(0, 0, 100, 0), x.act(0, 100, 100, 0), x.act(0, 5, 4, 0), x.act(0, 0, 0, -1), x.act(0, 0, 0, 2));
        for (int i = 1; i <= 10; i++) {
            c.due("29: so many", x.act(1000 * i - 1, 0, 99, i % 2), i);
        }
        c.due("29: FULL", x.act(0, 0, 0, 0), Checks.FULL);
        c.due("29: BAD ahead of FULL", x.act(0, 5, 4, 0), Checks.BAD);
        c.due("29: all(6)", x.all(6), 10);
        Checks.deeds(x, "mass from 2000; obit from 2000;");
        c.due("29: it takes what is told later", x.taken(0), 2999);
        c.due("29: but obits", x.taken(1), 3999);
    }

    private static void taken() {
        ChantryRolls x = Checks.with("mass soul 10 from 100; obit soul 10 from 100; mass soul 20 till 5; mass soul 9;");
        c.allDue("30: BAD", Checks.BAD, x.taken(-1), x.taken(4));
        c.due("30: by none", x.taken(0), Checks.NONE);
        x.act(99, 10, 20, 0);
        c.due("30: not begun", x.taken(0), Checks.NONE);
        c.due("30: begun, and over", x.taken(2), 99);
        c.due("30: another soul", x.taken(3), Checks.NONE);
        x.act(300, 10, 10, 1);
        c.due("30: the first soul", x.taken(0), 300);
        c.due("30: spared", x.taken(1), Checks.NONE);
        x.act(400, 0, 10, 0);
        c.due("30: the earliest holds", x.taken(0), 300);
        c.due("30: an obit", x.taken(1), 400);
        c.due("30: the other souls", x.taken(3), 400);
        x.act(100, 10, 10, 0);
        c.due("30: begun by that day", x.taken(0), 100);
        c.due("30: an earlier one told later", x.taken(1), 100);
    }

    private static void pension() {
        ChantryRolls x = Checks.with("mass priest 1 house 1 pays 33 from 0; obit priest 1 house 1 pays 11;"
                + "mass priest 2 house 2 pays 100 soul 1; mass priest 1 house 2 pays 100 soul 2;");
        x.house(1, 0, 100);
        x.house(1, 1, 50);
        x.house(2, 0, 390);
        c.allDue("31: BAD", Checks.BAD, x.pension(-1, 0), x.pension(8, 0), x.pension(0, -1), x.pension(0, 10000));
        c.due("31: none taken", x.pension(1, 9999), 0);
        x.act(720, 0, 0, 0);
        c.due("31: not yet", x.pension(1, 719), 0);
        c.due("31: halves of year 1, cut each: 16, 5", x.pension(1, 720), 10);
        c.due("31: another priest", x.pension(2, 720), 0);
        x.act(719, 0, 0, 0);
        c.due("31: halves of year 0: 33, 11", x.pension(1, 9999), 21);
        x.act(0, 0, 0, 0);
        c.due("31: of year 0, if taken in it", x.pension(1, 0), 21);
        x.act(360, 1, 2, 0);
        c.due("31: 195", x.pension(2, 360), 195);
        c.due("31: 200 at most", x.pension(1, 360), 200);
        c.due("31: 21 on the day ahead", x.pension(1, 359), 21);
        ChantryRolls y = Checks.with("mass priest 1 house 1 pays 50; mass priest 2 house 1 pays 30 soul 9;");
        y.house(1, 0, 100);
        y.join(0, 1, 0);
        y.act(400, 0, 0, 0);
        c.due("31: of what comes to both", y.pension(1, 400), 40);
        c.due("31: the other is not taken", y.pension(2, 400), 0);
        ChantryRolls z = Checks.with("mass pays 10; mass priest 7 pays 20;");
        z.house(0, 0, 100);
        z.act(0, 0, 99, 0);
        Checks.deeds(z, "mass pays 90; mass pays 90");
        c.due("31: priest 0, a text with a fault left out", z.pension(0, 0), 5);
        c.due("31: priest 7", z.pension(7, 0), 10);
        for (int i = 2; i < 12; i++) {
            Checks.deeds(z, "mass priest 7 pays 2;");
        }
        c.due("31: of twelve", z.pension(7, 9999), 20);
        c.due("40: twelve are GONE", z.all(5), 12);
        z.bid(0, 1, 1);
        c.due("33: twelve are taken", z.sold(0, 0), 1);
    }

    private static void bid() {
        ChantryRolls x = new ChantryRolls();
        c.allDue("32: BAD", Checks.BAD, x.bid(-1, 0, 1), x.bid(6, 0, 1), x.bid(0, -1, 1), x.bid(0, 10, 1),
                x.bid(0, 0, 0), x.bid(0, 0, 100001));
        for (int i = 1; i <= 20; i++) {
            c.due("32: so many", x.bid(i % 6, i % 10, 5000 * i), i);
        }
        c.due("32: FULL", x.bid(0, 0, 1), Checks.FULL);
        c.due("32: BAD ahead of FULL", x.bid(0, 0, 0), Checks.BAD);
        c.due("32: all(7)", x.all(7), 20);
        Checks.deeds(x, "mass house 5; mass soul 1;");
        Checks.deeds(x, "mass house 5 soul 1; mass");
        x.act(0, 0, 0, 0);
        c.due("33: of 20 bids", x.sold(5, 0), 7);
        c.due("33: not taken", x.sold(0, 0), Checks.NONE);
        ChantryRolls y = Checks.with("mass soul 1; mass house 1;");
        y.act(0, 1, 1, 0);
        y.bid(0, 9, 7);
        y.bid(0, 8, 6);
        c.due("33: the first promise, the first bid", y.sold(0, 0), 9);
        c.due("33: the second is not taken", y.sold(1, 0), Checks.NONE);
    }

    private static void sold() {
        ChantryRolls x = Checks.with("mass house 1 soul 1; mass house 1 soul 2 from 500; mass house 2 soul 1;"
                + "obit house 4 soul 1;");
        c.allDue("33: BAD", Checks.BAD, x.sold(-1, 0), x.sold(6, 0), x.sold(0, -1), x.sold(0, 10000));
        x.bid(1, 3, 10);
        x.bid(1, 4, 20);
        x.bid(1, 5, 20);
        x.bid(1, 6, 19);
        x.bid(2, 0, 1);
        x.bid(3, 7, 100000);
        x.bid(0, 7, 100000);
        c.due("33: none taken", x.sold(1, 9999), Checks.NONE);
        x.act(300, 1, 1, 1);
        c.due("33: not all taken", x.sold(1, 9999), Checks.NONE);
        c.due("33: not yet", x.sold(2, 299), Checks.NONE);
        c.due("33: sold, to person 0", x.sold(2, 300), 0);
        c.due("33: no promises with it", x.sold(3, 9999), Checks.NONE);
        x.act(600, 2, 2, 0);
        c.due("33: the second not yet", x.sold(1, 599), Checks.NONE);
        c.due("33: the greatest, the first told", x.sold(1, 600), 4);
        x.bid(1, 8, 100000);
        c.due("33: a greater one", x.sold(1, 600), 8);
        c.due("33: its obit is spared", x.sold(4, 9999), Checks.NONE);
        x.act(700, 1, 1, 0);
        c.due("33: no bids", x.sold(4, 9999), Checks.NONE);
        x.bid(4, 9, 1);
        c.due("33: a bid", x.sold(4, 700), 9);
        Checks.deeds(x, "mass house 2 soul 50;");
        c.due("33: one more promise with it", x.sold(2, 9999), Checks.NONE);
    }
}
