/** Promises 11 to 18: lines, which are good, what they count for, promises joined and parted. */
final class LinesTest {
    private static final Checks c = new Checks("LinesTest");

    public static void main(String[] args) {
        vow();
        sick();
        say();
        lines();
        linesWhenFull();
        goodByDays();
        goodByAltarsAndPriests();
        goodByOrder();
        goodWhenEnded();
        join();
        joinFull();
        split();
        saidAndOwed();
        c.finish();
    }

    private static void vow() {
        ChantryRolls x = Checks.with("mass priest 7; mass altar 1 priest 7; mass altar 2 priest 7;");
        c.allDue("12: BAD", Checks.BAD, x.vow(-1, 1), x.vow(8, 1), x.vow(0, 0), x.vow(0, 4), x.vow(0, -1));
        x.say(0, 0, 0);
        x.say(1, 0, 1);
        x.say(2, 0, 2);
        x.say(0, 0, 3);
        c.due("12: one good", x.all(4), 1);
        c.due("12: what it was", x.vow(7, 3), 1);
        c.due("12: three good", x.all(4), 3);
        c.due("12: what it was, 3", x.vow(7, 2), 3);
        c.due("12: two good", x.all(4), 2);
        x.vow(7, 4);
        c.due("12: BAD changes nothing", x.vow(7, 2), 2);
        c.due("12: another one's", x.vow(6, 2), 1);
    }

    private static void sick() {
        ChantryRolls x = Checks.with("mass priest 1; mass altar 1 priest 2;");
        c.allDue("13: BAD", Checks.BAD, x.sick(-1, 0, 0), x.sick(8, 0, 0), x.sick(0, -1, 0), x.sick(0, 10000, 10000),
                x.sick(0, 0, 10000), x.sick(0, 5, 4), x.sick(0, 0, -1));
        for (int day = 9; day <= 13; day++) {
            x.say(0, day, 0);
        }
        x.say(1, 10, 0);
        c.due("13: all good", x.all(4), 6);
        c.due("13: the first", x.sick(1, 10, 12), 1);
        int[] good = {1, 0, 0, 0, 1, 1};
        for (int line = 0; line < good.length; line++) {
            c.due("13: good(" + line + ")", x.good(line), good[line]);
        }
        c.due("13: the second, of another", x.sick(2, 10, 10), 2);
        c.due("13: he too", x.good(5), 0);
        for (int i = 3; i <= 20; i++) {
            c.due("13: so many", x.sick(i % 8, 0, 9999), i);
        }
        c.due("13: FULL", x.sick(0, 0, 0), Checks.FULL);
        c.due("13: BAD ahead of FULL", x.sick(0, 5, 4), Checks.BAD);
    }

    private static void say() {
        ChantryRolls x = Checks.with("mass from 5;");
        c.allDue("14: BAD", Checks.BAD, x.say(-1, 0, 0), x.say(1, 0, 0), x.say(0, -1, 0), x.say(0, 10000, 0),
                x.say(0, 0, -1), x.say(0, 0, 5));
        for (int line = 0; line < 60; line++) {
            c.due("14: its number", x.say(0, line, line % 5), line);
        }
        c.due("14: FULL", x.say(0, 100, 0), Checks.FULL);
        c.due("14: BAD ahead of FULL", x.say(0, 100, 5), Checks.BAD);
        c.due("14: all(3)", x.all(3), 60);
        c.due("14: all(4)", x.all(4), 55);
        c.due("11: said, of 60", x.count(0, 9999, 1), 55);
        c.allDue("16: BAD", Checks.BAD, x.good(-1), x.good(60), x.good(Integer.MAX_VALUE), x.good(Integer.MIN_VALUE));
        c.due("16: the last", x.good(59), 1);
        c.due("16: not begun", x.good(4), 0);
        c.due("16: begun", x.good(5), 1);
    }

    private static void lines() {
        ChantryRolls x = Checks.with("mass from 5; mass altar 1 priest 1;");
        Checks.fill(x, 0, 9, 0, 7, 1, 1, 8, 2, 2, 0, 1, 10000, 0, 1, 3, 5, 0, 9, 4);
        c.allDue("15: BAD", Checks.BAD, x.lines(-1, 0, 1), x.lines(8, 0, 1), x.lines(0, 0, 0), x.lines(0, 0, 21),
                x.lines(1, 0, 0), x.lines(0, 0, -1));
        c.due("15: NULL", x.lines(1, 0, 1), Checks.NULL);
        c.due("15: NULL ahead of PLACE", x.lines(1, -1, 1), Checks.NULL);
        c.allDue("15: PLACE", Checks.PLACE, x.lines(0, -1, 1), x.lines(0, 17, 1), x.lines(0, 2, 6), x.lines(0, 0, 7),
                x.lines(0, Integer.MAX_VALUE, 20), x.lines(0, 20, 1));
        c.due("15: none came of these", x.all(3), 0);
        c.due("15: as many as come", x.lines(0, 1, 5), 2);
        c.due("15: all(3)", x.all(3), 2);
        c.due("15: the first is good", x.good(0), 1);
        c.due("15: said of 0", x.count(0, 7, 1), 1);
        c.due("15: said of 0, earlier", x.count(0, 6, 1), 0);
        c.due("15: said of 1", x.count(1, 8, 1), 1);
        c.due("15: up to the end", x.lines(0, 15, 1), 1);
        c.due("15: good too", x.good(2), 1);
        c.due("15: its day", x.count(0, 9, 1) - x.count(0, 8, 1), 1);
        c.due("15: those that would be BAD alone", x.lines(0, 7, 3), 0);
        c.due("15: 0 is no finding", x.status(), 0);
    }

    private static void linesWhenFull() {
        ChantryRolls x = Checks.with("mass from 0;");
        x.sheet(0, 1, 60);
        for (int line = 0; line < 20; line++) {
            x.set(0, 3 * line + 1, 100 + line);
        }
        c.due("15: 20", x.lines(0, 0, 20), 20);
        c.due("15: 40", x.lines(0, 0, 20), 20);
        for (int i = 0; i < 7; i++) {
            x.say(0, i, 0);
        }
        c.due("15: 13 more", x.lines(0, 0, 20), 13);
        c.due("15: none more", x.lines(0, 0, 20), 0);
        c.due("15: 60", x.all(3), 60);
        c.due("15: the first of one day, one hour is good", x.good(0), 1);
        c.due("15: the second is not", x.good(20), 0);
    }

    private static void goodByDays() {
        ChantryRolls x = Checks.with("mass from 10 till 20;");
        int[] days = {9, 10, 15, 20, 21, 0, 9999};
        int[] good = {0, 1, 1, 1, 0, 0, 0};
        for (int i = 0; i < days.length; i++) {
            x.say(0, days[i], 2);
            c.due("16: on day " + days[i], x.good(i), good[i]);
        }
        c.due("16: all(4)", x.all(4), 3);
    }

    private static void goodByAltarsAndPriests() {
        ChantryRolls x = Checks.with("mass altar 0 priest 0; mass altar 0 priest 1; mass altar 1 priest 0;"
                + "mass altar 1 priest 1; mass altar 0 priest 0;");
        x.vow(0, 3);
        x.vow(1, 3);
        x.say(0, 1, 0);
        x.say(1, 1, 0);
        x.say(2, 1, 0);
        x.say(3, 1, 0);
        x.say(4, 1, 0);
        x.say(1, 1, 1);
        x.say(2, 1, 1);
        x.say(1, 2, 0);
        int[] good = {1, 0, 0, 1, 0, 1, 1, 1};
        for (int line = 0; line < good.length; line++) {
            c.due("16: good(" + line + ")", x.good(line), good[line]);
        }
    }

    /** A line that is told later, but stands earlier in the day, comes first. */
    private static void goodByOrder() {
        ChantryRolls x = Checks.with("mass altar 0 priest 0; mass altar 1 priest 0; mass altar 0 priest 1;");
        x.say(0, 5, 3);
        c.due("16: alone", x.good(0), 1);
        x.say(1, 5, 2);
        c.due("16: the earlier hour is good", x.good(1), 1);
        c.due("16: the later one no more", x.good(0), 0);
        x.say(2, 5, 3);
        c.due("16: one that is not good holds no altar", x.good(2), 1);
        x.say(0, 4, 4);
        c.due("16: another day", x.good(3), 1);
        c.due("16: the other day is left", x.good(1), 1);
        x.vow(0, 2);
        c.due("16: of one hour as told", x.good(0), 1);
        c.due("16: so the altar is held", x.good(2), 0);
        x.sick(0, 5, 5);
        c.due("16: and free again", x.good(2), 1);
    }

    private static void goodWhenEnded() {
        ChantryRolls x = Checks.with("mass soul 5; obit soul 5 altar 1 priest 1;");
        x.say(0, 99, 0);
        x.say(0, 100, 0);
        x.say(0, 101, 0);
        x.say(1, 100, 0);
        c.due("16: all good", x.all(4), 4);
        x.act(100, 5, 5, 1);
        c.due("16: ahead of the act", x.good(0), 1);
        c.due("16: on its day", x.good(1), 0);
        c.due("16: behind it", x.good(2), 0);
        c.due("16: spared", x.good(3), 1);
        c.due("11: what is wanted is not ended by it", x.count(0, 101, 0), 102);
    }

    private static void join() {
        ChantryRolls x = Checks.with("mass soul 0; mass soul 1; mass soul 2; obit soul 3;");
        c.allDue("17: BAD", Checks.BAD, x.join(-1, 0, 0), x.join(0, -1, 0), x.join(4, 0, 0), x.join(0, 4, 0),
                x.join(0, 0, 0), x.join(0, 1, -1), x.join(0, 1, 10000));
        c.due("17: joined", x.join(0, 1, 100), 1);
        c.allDue("17: STATE", Checks.STATE, x.join(0, 2, 100), x.join(2, 1, 9999), x.join(1, 2, 0), x.join(0, 1, 100),
                x.join(1, 0, 50));
        c.due("17: others", x.join(3, 2, 0), 1);
        c.due("17: BAD ahead of STATE", x.join(0, 0, 100), Checks.BAD);
        x.split(0, 200);
        c.due("17: parted later", x.join(0, 2, 199), Checks.STATE);
        x.split(2, 150);
        c.due("17: the first parted later than that day", x.join(0, 2, 50), Checks.STATE);
        c.due("17: on the day it was parted", x.join(0, 2, 200), 1);
        c.due("17: the other one is free", x.join(1, 3, 200), 1);
        x.day(200);
        c.due("17: kind", x.kind(0), 2);
        x.day(199);
        c.due("17: kind, ahead", x.kind(0), 2);
        c.due("17: kind, ahead, of another", x.kind(2), 1);
        x.day(99);
        c.due("17: not joined yet", x.kind(0), 1);
        x.day(100);
        c.due("17: joined on that day", x.kind(1), 2);
    }

    private static void joinFull() {
        ChantryRolls x = Checks.with("mass soul 0; mass soul 1; mass soul 2;");
        for (int i = 0; i < 10; i++) {
            c.due("17: joined", x.join(i % 2, 1 - i % 2, 10 * i), 1);
            c.due("17: STATE ahead of FULL", x.join(0, 2, 10 * i), Checks.STATE);
            c.due("18: parted", x.split(0, 10 * i + 5), 1);
        }
        c.due("17: FULL", x.join(0, 1, 500), Checks.FULL);
        c.due("17: FULL for others", x.join(2, 1, 500), Checks.FULL);
        c.due("17: STATE ahead of FULL, at the end", x.join(0, 2, 94), Checks.STATE);
        x.day(94);
        c.due("17: the last", x.kind(0), 2);
        x.day(95);
        c.due("18: parted on that day", x.kind(0), 1);
    }

    private static void split() {
        ChantryRolls x = Checks.with("mass soul 0; mass soul 1; mass soul 2;");
        c.allDue("18: BAD", Checks.BAD, x.split(-1, 0), x.split(3, 0), x.split(0, -1), x.split(0, 10000));
        c.due("18: in none", x.split(0, 5), Checks.STATE);
        x.join(0, 1, 50);
        c.allDue("18: no later", Checks.STATE, x.split(0, 50), x.split(1, 49), x.split(0, 0));
        c.due("18: the third is in none", x.split(2, 60), Checks.STATE);
        c.due("18: by the other one", x.split(1, 51), 1);
        c.allDue("18: parted already", Checks.STATE, x.split(0, 60), x.split(1, 60));
        x.join(1, 2, 60);
        c.due("18: its latest one is parted", x.split(0, 70), Checks.STATE);
        c.due("18: the last day", x.split(1, 9999), 1);
        x.day(9998);
        c.due("18: joined till then", x.kind(2), 2);
        x.day(9999);
        c.due("18: on that no more", x.kind(2), 1);
        x.join(0, 2, 9999);
        c.due("18: no day is later", x.split(0, 9999), Checks.STATE);
    }

    private static void saidAndOwed() {
        ChantryRolls x = Checks.with("mass each 10; mass altar 1 priest 1 each 20; mass altar 2 priest 2 from 9000;");
        for (int day = 0; day < 50; day += 10) {
            x.say(0, day, 0);
        }
        x.say(1, 30, 0);
        x.say(1, 31, 0);
        counted(x, 0, 49, 5, 5, 0);
        counted(x, 1, 49, 3, 2, 1);
        counted(x, 1, 29, 2, 0, 2);
        x.join(1, 0, 20);
        counted(x, 0, 49, 5, 7, 0);
        counted(x, 0, 29, 3, 3, 0);
        counted(x, 0, 30, 4, 5, 0);
        counted(x, 1, 19, 1, 0, 1);
        counted(x, 1, 20, 2, 1, 1);
        counted(x, 1, 49, 3, 5, 0);
        x.split(0, 40);
        counted(x, 1, 49, 3, 4, 0);
        counted(x, 2, 9999, 1000, 0, 1000);
        counted(x, 0, 9999, 1000, 7, 993);
    }

    private static void counted(ChantryRolls x, int promise, int day, int wanted, int said, int owed) {
        c.due("11: wanted of " + promise + " till " + day, x.count(promise, day, 0), wanted);
        c.due("11: said of " + promise + " till " + day, x.count(promise, day, 1), said);
        c.due("11: owed of " + promise + " till " + day, x.count(promise, day, 2), owed);
    }
}
