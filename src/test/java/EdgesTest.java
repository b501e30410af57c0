/** The first and the last day, year, hour for which each rule holds, and the ones next to them, for which it does not. */
final class EdgesTest {
    private static final Checks c = new Checks("EdgesTest");
    private static final int NONE = Checks.NONE;

    public static void main(String[] args) {
        wantsUpToTill();
        wantsToTheLastDay();
        feastsOfTheLastDays();
        feastsInARow();
        feastsAndTill();
        ranksOfOneDay();
        goodFromAndTill();
        goodAndSick();
        goodAndTaken();
        vows();
        onePriestOneHour();
        joinedDays();
        owed();
        shrinks();
        repairs();
        emptyDaysOfYears();
        emptyTwice();
        repairsAndEmptyDays();
        c.finish();
    }

    /** Pairs of a day and how many are wanted till it. */
    private static void wanted(String text, String feasts, int... pairs) {
        ChantryRolls x = Checks.with(text);
        for (String feast : feasts.split(";")) {
            if (!feast.isEmpty()) {
                Calls.make(x, "feast(" + feast + ")");
            }
        }
        for (int i = 0; i + 1 < pairs.length; i += 2) {
            c.due("11: " + text + " " + feasts + ", till " + pairs[i], x.count(0, pairs[i], 0), pairs[i + 1]);
        }
    }

    private static void wantsUpToTill() {
        wanted("mass from 10 each 5 till 20;", "", 0, 0, 9, 0, 10, 1, 14, 1, 15, 2, 19, 2, 20, 3, 21, 3, 9999, 3);
        wanted("mass from 10 each 5 till 19;", "", 19, 2, 20, 2, 9999, 2);
        wanted("mass from 10 each 5 till 24;", "", 24, 3, 25, 3, 9999, 3);
        wanted("mass from 10 each 5 till 25;", "", 24, 3, 25, 4);
        wanted("mass from 10 till 10;", "", 9, 0, 10, 1, 11, 1, 9999, 1);
        wanted("mass from 10 till 9;", "", 9, 0, 10, 0, 9999, 0);
        wanted("mass from 0 till 0 each 360;", "", 0, 1, 360, 1);
        wanted("mass from 9999 till 0;", "", 0, 0, 9999, 0);
    }

    private static void wantsToTheLastDay() {
        wanted("mass soul 1;", "", 0, 1, 1, 2, 9998, 9999, 9999, 10000);
        wanted("mass each 360;", "", 0, 1, 359, 1, 360, 2, 9719, 27, 9720, 28, 9999, 28);
        wanted("obit from 279;", "", 278, 0, 279, 1, 9998, 27, 9999, 28);
        wanted("obit from 280;", "", 9639, 26, 9640, 27, 9999, 27);
        wanted("mass from 9999;", "", 9998, 0, 9999, 1);
        wanted("mass from 9998 each 2;", "", 9998, 1, 9999, 1);
        wanted("mass from 9998 each 1;", "", 9998, 1, 9999, 2);
    }

    /** Moved beyond 9999: barred. */
    private static void feastsOfTheLastDays() {
        wanted("mass from 9998;", "9999,1", 9998, 1, 9999, 1);
        wanted("mass from 9998;", "9998,1", 9998, 0, 9999, 2);
        wanted("mass from 9998;", "9998,1;9999,1", 9998, 0, 9999, 0);
        wanted("mass from 9998;", "9998,1;9999,2", 9998, 0, 9999, 0);
        wanted("mass from 9998;", "9998,2;9999,1", 9998, 0, 9999, 0);
        wanted("mass from 9997;", "9998,1;9997,1", 9998, 0, 9999, 3);
        wanted("mass from 9997;", "9997,1;9999,1", 9997, 0, 9998, 2, 9999, 2);
        wanted("mass from 9999;", "9999,2", 9999, 0);
    }

    private static void feastsInARow() {
        wanted("mass from 0 till 0;", "0,1", 0, 0, 1, 1);
        wanted("mass from 0 till 0;", "0,2", 0, 0, 1, 0, 9999, 0);
        wanted("mass from 0 till 0;", "1,1;2,1", 0, 1, 1, 1);
        wanted("mass from 5 till 5;", "5,1;6,1", 6, 0, 7, 1);
        wanted("mass from 5 till 5;", "5,1;6,2", 6, 0, 7, 1);
        wanted("mass from 5 till 5;", "6,2;7,1;5,1;8,2", 8, 0, 9, 1);
        wanted("mass from 5 till 5;", "5,1;7,1", 5, 0, 6, 1);
        wanted("mass from 5 till 5;", "4,1", 5, 1, 4, 0);
        // Each that is moved counts where it falls, also where one is wanted already.
        wanted("mass from 5 till 8;", "5,1;6,1;7,1", 7, 0, 8, 4);
        wanted("mass from 5 till 8;", "5,1;6,2;7,1", 7, 0, 8, 3);
        wanted("mass from 5 till 8;", "5,2;6,2;7,2", 7, 0, 8, 1);
        wanted("mass from 5 each 2 till 9;", "5,1;6,1;7,1", 7, 0, 8, 2, 9, 3);
        wanted("mass from 5 each 2 till 9;", "6,1;8,1", 5, 1, 6, 1, 7, 2, 8, 2, 9, 3);
    }

    /** What is moved beyond till is wanted there; what is wanted beyond till is not, wherever it would fall. */
    private static void feastsAndTill() {
        wanted("mass from 5 till 10;", "10,1", 9, 5, 10, 5, 11, 6, 9999, 6);
        wanted("mass from 5 till 9;", "10,1", 9, 5, 10, 5, 11, 5);
        wanted("mass from 5 till 10;", "4,1", 4, 0, 5, 1, 10, 6);
        wanted("mass from 5 till 10;", "10,2", 10, 5, 11, 5);
        wanted("mass from 5 till 4;", "5,1", 5, 0, 6, 0);
    }

    private static void ranksOfOneDay() {
        wanted("mass from 5 till 5;", "5,1;5,1", 5, 0, 6, 1);
        wanted("mass from 5 till 5;", "5,1;5,2", 5, 0, 6, 0);
        wanted("mass from 5 till 5;", "5,2;5,1", 5, 0, 6, 0);
        wanted("mass from 5 till 5;", "5,1;5,2;5,1", 6, 0, 9999, 0);
        wanted("mass from 5 till 5;", "4,2;6,2;5,1;5,1", 6, 0, 7, 1);
    }

    /** Pairs of a day and whether a line of promise 0 is good on it; each of its own. */
    private static void good(String text, String call, int... pairs) {
        for (int i = 0; i + 1 < pairs.length; i += 2) {
            ChantryRolls x = Checks.with(text);
            Calls.make(x, call);
            x.say(0, pairs[i], 0);
            c.due("16: " + text + " " + call + ", day " + pairs[i], x.good(0), pairs[i + 1]);
            c.due("11: " + text + " " + call + ", day " + pairs[i], x.count(0, pairs[i], 1), pairs[i + 1]);
            ChantryRolls y = Checks.with(text);
            y.say(0, pairs[i], 0);
            Calls.make(y, call);
            c.due("16: the line ahead of " + call + ", day " + pairs[i], y.good(0), pairs[i + 1]);
        }
    }

    private static void goodFromAndTill() {
        good("mass from 10 till 20;", "day(0)", 0, 0, 9, 0, 10, 1, 11, 1, 19, 1, 20, 1, 21, 0, 9999, 0);
        good("mass from 10 till 10;", "day(9999)", 9, 0, 10, 1, 11, 0);
        good("obit from 9999;", "day(0)", 9998, 0, 9999, 1);
        good("obit till 0;", "day(0)", 0, 1, 1, 0);
        good("mass from 20 till 10;", "day(0)", 10, 0, 15, 0, 20, 0);
        // A line need not be wanted to be good.
        good("mass from 10 each 10;", "feast(11, 2)", 10, 1, 11, 1, 15, 1);
    }

    private static void goodAndSick() {
        good("mass priest 7;", "sick(7, 10, 20)", 9, 1, 10, 0, 15, 0, 20, 0, 21, 1);
        good("mass priest 7;", "sick(7, 10, 10)", 9, 1, 10, 0, 11, 1);
        good("mass priest 7;", "sick(7, 0, 0)", 0, 0, 1, 1);
        good("mass priest 7;", "sick(7, 9999, 9999)", 9998, 1, 9999, 0);
        good("mass priest 7;", "sick(7, 0, 9999)", 0, 0, 5000, 0, 9999, 0);
        good("mass priest 7;", "sick(6, 0, 9999)", 0, 1, 9999, 1);
    }

    private static void goodAndTaken() {
        good("mass soul 5;", "act(10, 5, 5, 0)", 9, 1, 10, 0, 11, 0, 9999, 0);
        good("mass soul 5;", "act(0, 5, 5, 0)", 0, 0, 1, 0);
        good("mass soul 5;", "act(9999, 5, 5, 0)", 9998, 1, 9999, 0);
        good("mass soul 5 from 10;", "act(10, 5, 5, 0)", 9, 0, 10, 0, 11, 0);
        good("mass soul 5 from 11;", "act(10, 5, 5, 0)", 10, 0, 11, 1);
        good("mass soul 5;", "act(10, 6, 99, 0)", 10, 1);
        good("mass soul 5;", "act(10, 0, 4, 0)", 10, 1);
        good("obit soul 5;", "act(10, 5, 5, 1)", 10, 1);
        good("obit soul 5;", "act(10, 5, 5, 0)", 9, 1, 10, 0);
        good("mass soul 5;", "act(10, 5, 5, 1)", 9, 1, 10, 0);
    }

    /** Five lines of one priest on one day, one an hour: the first VOW of them are good. */
    private static void vows() {
        for (int vow = 1; vow <= 3; vow++) {
            ChantryRolls x = Checks.with("mass priest 2; mass priest 2 altar 1;");
            x.vow(2, vow);
            for (int hour = 4; hour >= 0; hour--) {
                x.say(hour % 2, 50, hour);
                c.due("40: " + vow + " at most", x.all(4), Math.min(vow, 5 - hour));
            }
            for (int hour = 0; hour < 5; hour++) {
                c.due("16: vow " + vow + ", hour " + hour, x.good(4 - hour), hour < vow ? 1 : 0);
            }
            x.say(0, 51, 4);
            c.due("16: another day is another", x.good(5), 1);
        }
    }

    /** What is not good holds neither an hour nor a place in the vow. */
    private static void onePriestOneHour() {
        ChantryRolls x = Checks.with("mass altar 0 priest 0; mass altar 1 priest 0; mass altar 1 priest 1 from 60;"
                + "mass altar 1 priest 2;");
        x.vow(0, 2);
        x.say(0, 50, 3);
        x.say(1, 50, 3);
        c.due("16: he is at another altar that hour", x.good(1), 0);
        x.say(3, 50, 3);
        c.due("16: so that altar is free", x.good(2), 1);
        x.say(1, 50, 4);
        c.due("16: his second", x.good(3), 1);
        x.say(2, 50, 0);
        x.say(3, 50, 0);
        c.due("16: not begun", x.good(4), 0);
        c.due("16: and so not in the way", x.good(5), 1);
        c.due("16: his later one of that day is good no more", x.good(2), 0);
        x.vow(2, 2);
        c.due("16: with a vow of two it is", x.good(2), 1);
    }

    private static void joinedDays() {
        ChantryRolls x = Checks.with("mass soul 1; mass soul 2 altar 1 priest 1; mass soul 3 altar 2 priest 2;");
        for (int day = 8; day <= 22; day++) {
            x.say(0, day, 0);
        }
        x.join(1, 0, 10);
        int[][] till = {{9, 0}, {10, 1}, {11, 2}, {20, 11}, {22, 13}};
        for (int[] row : till) {
            c.due("11: said for 1 till " + row[0], x.count(1, row[0], 1), row[1]);
        }
        x.split(0, 20);
        int[][] parted = {{9, 0}, {10, 1}, {19, 10}, {20, 10}, {22, 10}};
        for (int[] row : parted) {
            c.due("11: parted, said for 1 till " + row[0], x.count(1, row[0], 1), row[1]);
            c.due("11: its own all the time", x.count(0, row[0], 1), row[0] - 7);
        }
        x.join(0, 2, 20);
        c.due("11: said for 2 on the day of both", x.count(2, 20, 1), 1);
        c.due("11: and for 1 no more", x.count(1, 20, 1), 10);
        int[][] kinds = {{9, 1, 1}, {10, 2, 1}, {19, 2, 1}, {20, 1, 2}, {9999, 1, 2}};
        for (int[] row : kinds) {
            x.day(row[0]);
            c.due("36: 1 on day " + row[0], x.kind(1), row[1]);
            c.due("36: 2 on day " + row[0], x.kind(2), row[2]);
            c.due("36: 0 on day " + row[0], x.kind(0), row[0] < 10 ? 1 : 2);
        }
        x.split(2, 21);
        x.day(20);
        c.due("36: for one day", x.kind(2), 2);
        x.day(21);
        c.due("36: on that no more", x.kind(2), 1);
    }

    /** 0 at least: one less, as many, and one more said than wanted. */
    private static void owed() {
        ChantryRolls x = Checks.with("mass from 10 each 100 till 110;");
        c.due("11: none wanted", x.count(0, 9, 2), 0);
        c.due("11: one wanted", x.count(0, 10, 2), 1);
        x.say(0, 11, 0);
        c.due("11: one said", x.count(0, 11, 2), 0);
        c.due("11: not yet said", x.count(0, 10, 2), 1);
        x.say(0, 12, 0);
        c.due("11: two of one", x.count(0, 12, 2), 0);
        c.due("11: two of two", x.count(0, 110, 2), 0);
        x.say(0, 13, 0);
        c.due("11: three of two", x.count(0, 9999, 2), 0);
        c.due("38: nothing owed", x.ask(0, 0), 100);
        x.sick(0, 11, 13);
        c.due("11: none good, two owed", x.count(0, 9999, 2), 2);
        x.day(110);
        c.due("38: two owed", x.ask(0, 0), 102);
    }

    private static void rents(int rent, int shrink, int... pairs) {
        ChantryRolls x = new ChantryRolls();
        x.house(3, 0, rent);
        x.house(3, 1, shrink);
        for (int i = 0; i + 1 < pairs.length; i += 2) {
            c.due("22: " + rent + " by " + shrink + ", year " + pairs[i], x.rent(3, pairs[i]), pairs[i + 1]);
        }
    }

    /** Year 0 is not shrunk, year 27 is 27 times; what each time takes is cut. */
    private static void shrinks() {
        rents(0, 0, 0, 0, 27, 0);
        rents(0, 100, 0, 0, 1, 0, 27, 0);
        rents(10000, 0, 0, 10000, 1, 10000, 27, 10000);
        rents(10000, 100, 0, 10000, 1, 0, 27, 0);
        rents(10000, 1, 0, 10000, 1, 9900, 2, 9801, 3, 9703, 4, 9606);
        rents(10000, 99, 0, 10000, 1, 100, 2, 1, 3, 1, 27, 1);
        rents(10000, 50, 1, 5000, 4, 625, 5, 313, 6, 157, 13, 2, 14, 1, 15, 1, 27, 1);
        rents(1, 99, 0, 1, 1, 1, 27, 1);
        rents(1, 100, 0, 1, 1, 0);
        rents(99, 1, 1, 99, 27, 99);
        rents(100, 1, 0, 100, 1, 99, 2, 99, 27, 99);
        rents(101, 1, 1, 100, 2, 99, 3, 99);
    }

    /** One less than the rent, as much, one more. */
    private static void repairs() {
        int[] sums = {1, 99, 100, 101, 10000};
        int[] left = {99, 1, 0, 0, 0};
        for (int i = 0; i < sums.length; i++) {
            for (int year = 0; year <= 27; year += 27) {
                ChantryRolls x = new ChantryRolls();
                x.house(0, 0, 100);
                x.repair(0, year, sums[i]);
                c.due("22: less " + sums[i] + " in year " + year, x.rent(0, year), left[i]);
                c.due("22: but not in year " + (27 - year), x.rent(0, 27 - year), 100);
                c.due("22: nor next to it", x.rent(0, Math.abs(year - 1)), 100);
            }
        }
    }

    /** A rent of 360, so that each empty day takes 1. */
    private static void emptied(int from, int to, int... pairs) {
        ChantryRolls x = new ChantryRolls();
        x.house(0, 0, 360);
        x.empty(0, from, to);
        for (int i = 0; i + 1 < pairs.length; i += 2) {
            c.due("22: empty from " + from + " to " + to + ", year " + pairs[i], x.rent(0, pairs[i]), pairs[i + 1]);
        }
    }

    private static void emptyDaysOfYears() {
        emptied(0, 0, 0, 359, 1, 360);
        emptied(359, 359, 0, 359, 1, 360);
        emptied(360, 360, 0, 360, 1, 359, 2, 360);
        emptied(359, 360, 0, 359, 1, 359, 2, 360);
        emptied(0, 358, 0, 1, 1, 360);
        emptied(0, 359, 0, 0, 1, 360);
        emptied(0, 360, 0, 0, 1, 359);
        emptied(1, 719, 0, 1, 1, 0, 2, 360);
        emptied(359, 720, 0, 359, 1, 0, 2, 359);
        emptied(9719, 9719, 26, 359, 27, 360);
        emptied(9720, 9720, 26, 360, 27, 359);
        emptied(9999, 9999, 26, 360, 27, 359);
        // The last year has 280 days, but its rent is one by 360 for each of them.
        emptied(9720, 9999, 26, 360, 27, 80);
        emptied(0, 9999, 0, 0, 13, 0, 26, 0, 27, 80);
        ChantryRolls x = new ChantryRolls();
        x.house(0, 0, 359);
        x.house(1, 0, 1);
        x.house(2, 0, 10000);
        for (int house = 0; house < 3; house++) {
            x.empty(house, 0, 0);
            x.empty(house, 360, 718);
        }
        c.due("22: 359 by 360 is cut", x.rent(0, 0), 359);
        c.due("22: 359 times 359 by 360 is cut", x.rent(0, 1), 1);
        c.due("22: 1 by 360 is cut", x.rent(1, 0), 1);
        c.due("22: 359 by 360 is cut, of 1", x.rent(1, 1), 1);
        c.due("22: 10000 by 360 is cut", x.rent(2, 0), 9973);
        c.due("22: 10000 times 359 by 360 is cut", x.rent(2, 1), 28);
    }

    /** Spans that overlap by a day, touch, lie in one another, are the same, or are told the last first. */
    private static void emptyTwice() {
        int[][] spans = {{10, 20, 20, 30, 21}, {10, 20, 21, 30, 21}, {10, 20, 22, 30, 20}, {10, 30, 15, 20, 21},
            {10, 30, 10, 30, 21}, {10, 30, 10, 10, 21}, {10, 30, 30, 30, 21}, {10, 30, 9, 9, 22}, {10, 30, 31, 31, 22},
            {20, 30, 10, 20, 21}, {0, 359, 0, 9999, 360}, {0, 9999, 359, 359, 360}, {359, 9999, 0, 0, 2}};
        for (int[] span : spans) {
            ChantryRolls x = new ChantryRolls();
            x.house(5, 0, 360);
            x.empty(5, span[0], span[1]);
            x.empty(4, 0, 9999);
            x.empty(5, span[2], span[3]);
            c.due("22: " + span[0] + " to " + span[1] + ", " + span[2] + " to " + span[3], x.rent(5, 0), 360 - span[4]);
        }
    }

    /** Both take of the shrunk rent, and no more than there is. */
    private static void repairsAndEmptyDays() {
        ChantryRolls x = new ChantryRolls();
        x.house(0, 0, 720);
        x.empty(0, 0, 99);
        x.repair(0, 0, 519);
        c.due("22: 720 less 519 less 200", x.rent(0, 0), 1);
        x.repair(0, 0, 1);
        c.due("22: nothing left", x.rent(0, 0), 0);
        x.repair(0, 0, 1);
        c.due("22: 0 at least", x.rent(0, 0), 0);
        x.house(0, 1, 50);
        x.empty(0, 360, 369);
        x.repair(0, 1, 349);
        c.due("22: 360 less 349 less 10", x.rent(0, 1), 1);
    }
}
