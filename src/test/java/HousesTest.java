/** Promises 19 to 26: rents, repairs, empty days, what comes and whom it feeds, prices, obits. */
final class HousesTest {
    private static final Checks c = new Checks("HousesTest");

    public static void main(String[] args) {
        house();
        shrink();
        repair();
        empty();
        emptyTwice();
        comes();
        comesToJoined();
        fails();
        price();
        spent();
        spentWhereMoved();
        c.finish();
    }

    private static void house() {
        ChantryRolls x = new ChantryRolls();
        c.allDue("19: BAD", Checks.BAD, x.house(-1, 0, 0), x.house(6, 0, 0), x.house(0, -1, 0), x.house(0, 2, 0),
                x.house(0, 0, -1), x.house(0, 0, 10001), x.house(0, 1, -1), x.house(0, 1, 101));
        c.due("19: rent", x.house(5, 0, 10000), 0);
        c.due("19: shrink", x.house(5, 1, 100), 0);
        c.due("19: rent it was", x.house(5, 0, 7), 10000);
        c.due("19: shrink it was", x.house(5, 1, 0), 100);
        c.due("19: another one's", x.house(4, 0, 1), 0);
        c.due("22: rent", x.rent(5, 27), 7);
        c.allDue("22: BAD", Checks.BAD, x.rent(-1, 0), x.rent(6, 0), x.rent(0, -1), x.rent(0, 28));
    }

    /** What is taken off is cut, each time: 99 less 9 (9.9), less 9, less 8 (8.1), ... */
    private static void shrink() {
        ChantryRolls x = new ChantryRolls();
        x.house(0, 0, 99);
        x.house(0, 1, 10);
        int[] rents = {99, 90, 81, 73, 66, 60, 54, 49, 45, 41, 37};
        for (int year = 0; year < rents.length; year++) {
            c.due("22: shrunk " + year + " times", x.rent(0, year), rents[year]);
        }
        c.due("22: 9 shrinks no more", x.rent(0, 27), 9);
        x.house(0, 1, 100);
        c.due("22: all of it, year 0", x.rent(0, 0), 99);
        c.due("22: all of it, year 1", x.rent(0, 1), 0);
        c.due("22: all of it, year 27", x.rent(0, 27), 0);
    }

    private static void repair() {
        ChantryRolls x = new ChantryRolls();
        x.house(1, 0, 1000);
        x.house(2, 0, 1000);
        c.allDue("20: BAD", Checks.BAD, x.repair(-1, 0, 1), x.repair(6, 0, 1), x.repair(0, -1, 1), x.repair(0, 28, 1),
                x.repair(0, 0, 0), x.repair(0, 0, 10001));
        c.due("20: first", x.repair(1, 3, 300), 1);
        c.due("20: second", x.repair(1, 3, 1), 2);
        c.due("20: another year", x.repair(1, 27, 10000), 3);
        c.due("22: less both", x.rent(1, 3), 699);
        c.due("22: 0 at least", x.rent(1, 27), 0);
        c.due("22: the year behind", x.rent(1, 4), 1000);
        c.due("22: another house", x.rent(2, 3), 1000);
        for (int i = 4; i <= 20; i++) {
            c.due("20: so many", x.repair(0, 0, i), i);
        }
        c.due("20: FULL", x.repair(0, 0, 1), Checks.FULL);
        c.due("22: with 20 of them", x.rent(1, 3), 699);
        x.house(0, 0, 10000);
        c.due("22: with 17 in one year", x.rent(0, 0), 10000 - 204);
        c.due("20: BAD ahead of FULL", x.repair(0, 0, 0), Checks.BAD);
    }

    private static void empty() {
        ChantryRolls x = new ChantryRolls();
        x.house(0, 0, 1000);
        x.house(0, 1, 10);
        c.allDue("21: BAD", Checks.BAD, x.empty(-1, 0, 0), x.empty(6, 0, 0), x.empty(0, -1, 0), x.empty(0, 10000, 10000),
                x.empty(0, 0, 10000), x.empty(0, 5, 4));
        c.due("21: first", x.empty(0, 359, 361), 1);
        c.due("22: one day of year 0: 2.7 cut", x.rent(0, 0), 998);
        c.due("22: two days of year 1: 5", x.rent(0, 1), 895);
        c.due("22: none of year 2", x.rent(0, 2), 810);
        x.repair(0, 1, 100);
        c.due("22: the part is one of the whole rent", x.rent(0, 1), 795);
        x.empty(0, 360, 719);
        c.due("22: 0 at least", x.rent(0, 1), 0);
        x.empty(0, 9990, 9999);
        x.house(0, 1, 0);
        c.due("22: ten of 360 in the last year: 27", x.rent(0, 27), 973);
        for (int i = 4; i <= 20; i++) {
            c.due("21: so many", x.empty(5, 0, 9999), i);
        }
        c.due("21: FULL", x.empty(0, 0, 0), Checks.FULL);
        c.due("21: BAD ahead of FULL", x.empty(0, 5, 4), Checks.BAD);
        x.house(5, 0, 10000);
        c.due("22: empty all the time", x.rent(5, 13), 0);
        c.due("22: the last year has 280 days that are", x.rent(5, 27), 2223);
    }

    /** A rent of 360: each empty day takes 1. */
    private static void emptyTwice() {
        ChantryRolls x = new ChantryRolls();
        x.house(0, 0, 360);
        x.house(1, 0, 360);
        int[][] spans = {{100, 110}, {105, 120}, {100, 120}, {90, 99}, {200, 200}, {200, 200}, {150, 199}, {121, 121},
            {0, 5}, {3, 3}, {300, 400}, {350, 365}};
        int[] left = {349, 339, 339, 329, 328, 328, 278, 277, 271, 271, 211, 211};
        for (int i = 0; i < spans.length; i++) {
            x.empty(0, spans[i][0], spans[i][1]);
            c.due("22: behind span " + i, x.rent(0, 0), left[i]);
            c.due("22: another house", x.rent(1, 0), 360);
        }
        c.due("22: year 1", x.rent(0, 1), 319);
        x.empty(1, 0, 358);
        c.due("22: all but the last day of the year", x.rent(1, 0), 1);
        x.empty(1, 359, 359);
        c.due("22: the last day, too", x.rent(1, 0), 0);
        c.due("22: but not the next one", x.rent(1, 1), 360);
    }

    private static void comes() {
        ChantryRolls x = Checks.with("mass house 1 pays 33; obit house 1 pays 100; mass house 2; mass pays 100;");
        x.house(1, 0, 301);
        x.house(2, 0, 5000);
        x.house(1, 1, 50);
        c.allDue("23: BAD", Checks.BAD, x.comes(-1, 0, 0), x.comes(4, 0, 0), x.comes(0, -1, 0), x.comes(0, 28, 0),
                x.comes(0, 0, -1), x.comes(0, 0, 2));
        c.due("23: cut", x.comes(0, 0, 0), 99);
        c.due("23: not fed", x.comes(0, 0, 1), 0);
        x.price(0, 99);
        c.due("23: just fed", x.comes(0, 0, 1), 1);
        c.due("23: year 1", x.comes(0, 1, 0), 49);
        c.due("23: of an obit", x.comes(1, 1, 0), 151);
        c.due("23: an obit is fed", x.comes(1, 1, 1), 1);
        c.due("23: pays nothing", x.comes(2, 0, 0), 0);
        c.due("23: house 0 if none is told", x.comes(3, 0, 0), 0);
        x.house(0, 0, 10000);
        c.due("23: all of it", x.comes(3, 27, 0), 10000);
        x.price(0, 0);
        c.due("23: 0 feeds for 0", x.comes(2, 0, 1), 1);
    }

    private static void comesToJoined() {
        ChantryRolls x = Checks.with("mass house 1 pays 50; mass house 2 pays 25; mass house 2 pays 10;");
        x.house(1, 0, 101);
        x.house(2, 0, 402);
        x.join(1, 0, 361);
        c.due("23: not on the first day", x.comes(0, 1, 0), 50);
        c.due("23: both, to one", x.comes(0, 2, 0), 150);
        c.due("23: both, to the other", x.comes(1, 2, 0), 150);
        c.due("23: fed together", x.comes(0, 2, 1), 1);
        c.due("23: alone no more fed", x.comes(0, 1, 1), 0);
        c.due("23: not to the third", x.comes(2, 2, 0), 40);
        x.split(0, 1080);
        c.due("23: parted on the first day", x.comes(0, 3, 0), 50);
        c.due("23: not parted yet", x.comes(1, 2, 0), 150);
        x.join(0, 2, 1440);
        c.due("23: joined on the first day", x.comes(2, 4, 0), 90);
        x.split(2, 1441);
        c.due("23: joined for that day alone", x.comes(0, 4, 0), 90);
        c.due("23: the year behind", x.comes(0, 5, 0), 50);
    }

    private static void fails() {
        ChantryRolls x = Checks.with("mass house 1 pays 100 from 719; mass house 1 pays 100 from 9999 till 0;"
                + "obit house 2; mass house 3 pays 50; mass house 1 pays 100 from 720;");
        c.allDue("24: BAD", Checks.BAD, x.fails(-1), x.fails(5));
        x.house(1, 0, 100);
        c.due("24: fed to the end", x.fails(0), Checks.NONE);
        c.due("24: an obit", x.fails(2), Checks.NONE);
        c.due("24: at once", x.fails(3), 0);
        x.repair(1, 1, 1);
        c.due("24: the year of its first day", x.fails(0), 1);
        c.due("24: one that begins behind it", x.fails(4), Checks.NONE);
        x.repair(1, 27, 1);
        c.due("24: year 27", x.fails(4), 27);
        c.due("24: whatever its till", x.fails(1), 27);
        x.house(3, 0, 200);
        x.house(3, 1, 1);
        c.due("24: shrunk to less", x.fails(3), 1);
        x.join(3, 0, 0);
        c.due("24: fed by both", x.fails(3), Checks.NONE);
    }

    private static void price() {
        ChantryRolls x = new ChantryRolls();
        c.allDue("25: BAD", Checks.BAD, x.price(-1, 0), x.price(3, 0), x.price(0, -1), x.price(0, 10001),
                x.price(1, -1), x.price(1, 100), x.price(2, -1), x.price(2, 100));
        c.due("25: wage", x.price(0, 10000), 100);
        c.due("25: wage it was", x.price(0, 0), 10000);
        c.due("25: bread", x.price(1, 99), 1);
        c.due("25: bread it was", x.price(1, 0), 99);
        c.due("25: candle", x.price(2, 98), 1);
        c.due("25: candle it was", x.price(2, 0), 98);
        c.due("25: wage is another", x.price(0, 0), 0);
    }

    private static void spent() {
        ChantryRolls x = Checks.with("obit from 359 each 1 till 361 bread 2 candle 3; mass bread 50 candle 50;"
                + "obit bread 10 from 100;");
        c.allDue("26: BAD", Checks.BAD, x.spent(-1), x.spent(28));
        c.due("26: year 0", x.spent(0), 15);
        c.due("26: year 1", x.spent(1), 20);
        c.due("26: year 2", x.spent(2), 10);
        x.price(1, 7);
        c.due("26: bread at 7", x.spent(1), 104);
        x.price(2, 0);
        c.due("26: candles for nothing", x.spent(1), 98);
        c.due("26: year 27", x.spent(27), 70);
        x.act(0, 0, 99, 0);
        c.due("26: what is taken is wanted still", x.spent(27), 70);
        Checks.deeds(x, "obit bread 9; obit bread 9; obit bread 9");
        c.due("26: a text with a fault leaves nothing", x.spent(27), 70);
        for (int i = 3; i < 12; i++) {
            Checks.deeds(x, "obit bread 1;");
        }
        c.due("26: of twelve", x.spent(27), 70 + 9 * 7);
    }

    private static void spentWhereMoved() {
        ChantryRolls x = Checks.with("obit from 359 bread 1; obit from 9719 candle 1;");
        c.due("26: year 0", x.spent(0), 1);
        x.feast(359, 1);
        c.due("26: moved out of year 0", x.spent(0), 0);
        c.due("26: and into year 1", x.spent(1), 2);
        x.feast(719, 2);
        c.due("26: barred in year 1", x.spent(1), 1);
        x.feast(9719, 1);
        c.due("26: both moved into year 27", x.spent(27), 2);
        c.due("26: from year 26", x.spent(26), 0);
        c.due("26: year 25", x.spent(25), 1);
    }
}
