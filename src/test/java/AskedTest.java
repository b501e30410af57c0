/** Promises 35 to 40: the day, kinds, asks and their trace, how many there are. */
final class AskedTest {
    private static final Checks c = new Checks("AskedTest");

    public static void main(String[] args) {
        day();
        kind();
        as();
        asksOfMasses();
        asksOfObits();
        asksOfGone();
        trace();
        all();
        c.finish();
    }

    private static void day() {
        ChantryRolls x = new ChantryRolls();
        c.allDue("35: BAD", Checks.BAD, x.day(-1), x.day(10000), x.day(Integer.MIN_VALUE));
        c.due("35: 0 at first", x.day(9999), 0);
        c.due("35: what it was", x.day(0), 9999);
        c.due("35: 0 again", x.day(1), 0);
    }

    /** 0 a mass, 1 an obit, 2 a mass joined to 1, 3 over behind day 50, 4 taken on day 60. */
    private static ChantryRolls five() {
        ChantryRolls x = Checks.with("mass soul 10; obit soul 11; mass soul 12; obit soul 13 till 50;"
                + "mass soul 14 from 60;");
        x.join(1, 2, 20);
        x.act(60, 14, 14, 0);
        return x;
    }

    private static void kind() {
        ChantryRolls x = five();
        c.allDue("36: BAD", Checks.BAD, x.kind(-1), x.kind(5), x.kind(12));
        int[][] kinds = {{0, 1, 3, 1, 3, 1}, {20, 1, 3, 2, 3, 1}, {50, 1, 3, 2, 3, 1}, {51, 1, 3, 2, 4, 1},
            {60, 1, 3, 2, 4, 4}, {9999, 1, 3, 2, 4, 4}};
        for (int[] row : kinds) {
            x.day(row[0]);
            for (int promise = 0; promise < 5; promise++) {
                c.due("36: kind(" + promise + ") on day " + row[0], x.kind(promise), row[promise + 1]);
            }
        }
        x.act(70, 12, 12, 0);
        c.due("36: GONE ahead of JOINED", x.kind(2), 4);
        c.due("36: what it is joined to stays", x.kind(1), 3);
    }

    private static void as() {
        ChantryRolls x = five();
        c.allDue("37: BAD", Checks.BAD, x.as(-1, 0), x.as(5, 0), x.as(0, -1), x.as(0, 5));
        x.day(60);
        boolean[][] may = {{true, true, false, false, false}, {true, false, false, true, false},
            {true, true, true, false, false}, {true, false, false, false, true}, {true, false, false, false, true}};
        for (int promise = 0; promise < 5; promise++) {
            for (int kind = 0; kind < 5; kind++) {
                int want = may[promise][kind] ? 10 + promise : Checks.KIND;
                c.due("37: as(" + promise + ", " + kind + ")", x.as(promise, kind), want);
                c.due("41: status behind it", x.status(), may[promise][kind] ? 0 : 3);
            }
        }
    }

    private static void asked(String what, ChantryRolls x, int promise, int ask, int want, int... trace) {
        c.due("38: " + what, x.ask(promise, ask), want);
        for (int i = 0; i < trace.length; i++) {
            c.due("39: " + what + ", trace " + i, x.trace(i), trace[i]);
        }
        c.due("39: " + what + ", behind its end", x.trace(trace.length), Checks.NONE);
    }

    private static void asksOfMasses() {
        ChantryRolls x = Checks.with("mass soul 7 altar 3 each 5; mass soul 8 altar 2 priest 1 each 10 from 10;");
        c.allDue("38: BAD", Checks.BAD, x.ask(-1, 0), x.ask(2, 0), x.ask(0, -1), x.ask(0, 2));
        x.day(20);
        asked("size of a mass", x, 0, 0, 5 + 5, 11, 10);
        asked("mark of a mass", x, 0, 1, 7 + 300, 21, 20);
        x.say(0, 20, 0);
        x.say(0, 21, 0);
        asked("size with one said", x, 0, 0, 5 + 4, 11, 10);
        x.join(0, 1, 20);
        asked("size of a joined one", x, 0, 0, 2 * (5 + 4), 12, 11, 10);
        asked("size of the other one", x, 1, 0, 2 * (10 + 1), 12, 11, 10);
        asked("mark of a joined one", x, 0, 1, 7 + 300 + 1, 22, 21, 20);
        asked("mark of the other one", x, 1, 1, 8 + 200, 22, 21, 20);
        x.day(19);
        asked("size ahead of it", x, 1, 0, 10 + 1, 11, 10);
        asked("mark ahead of it", x, 0, 1, 307, 21, 20);
    }

    private static void asksOfObits() {
        ChantryRolls x = Checks.with("obit soul 7 altar 3 bread 4 candle 9; mass soul 50;");
        x.day(9999);
        asked("size of an obit", x, 0, 0, 364, 13, 10);
        asked("mark of an obit", x, 0, 1, 7 + 364, 23, 20, 13, 10);
        x.join(1, 0, 5);
        asked("mark of a joined obit", x, 0, 1, 7 + 364, 23, 20, 13, 10);
        asked("mark of a mass joined to an obit", x, 1, 1, 50, 22, 21, 20);
    }

    private static void asksOfGone() {
        ChantryRolls x = Checks.with("obit soul 7 bread 4 till 10; mass soul 0 altar 2; mass soul 9 altar 2 till 10;");
        x.join(0, 2, 0);
        x.act(11, 0, 0, 0);
        x.day(11);
        asked("size of an obit that is gone", x, 0, 0, -7, 14, 20);
        asked("mark of an obit that is gone", x, 0, 1, 7, 20);
        asked("size of a mass that is gone", x, 1, 0, 0, 14, 20);
        asked("size of a joined one that is gone", x, 2, 0, -9, 14, 20);
        asked("mark of a joined one that is gone", x, 2, 1, 9, 20);
    }

    private static void trace() {
        ChantryRolls x = Checks.with("obit soul 7;");
        c.due("39: empty at first", x.trace(0), Checks.NONE);
        x.ask(0, 1);
        c.allDue("39: no such number", Checks.NONE, x.trace(-1), x.trace(4), x.trace(15), x.trace(16),
                x.trace(Integer.MAX_VALUE), x.trace(Integer.MIN_VALUE));
        x.ask(1, 0);
        x.ask(0, 2);
        x.count(0, 0, 2);
        c.due("39: what is refused leaves it", x.trace(0), 23);
        c.due("39: to its end", x.trace(3), 10);
        x.ask(0, 0);
        c.due("39: another ask does not", x.trace(0), 13);
        c.due("39: another end", x.trace(2), Checks.NONE);
    }

    private static void all() {
        ChantryRolls x = five();
        c.allDue("40: BAD", Checks.BAD, x.all(-1), x.all(9), x.all(Integer.MAX_VALUE));
        x.sheet(1, 0, 0);
        x.sheet(2, 1, 3);
        x.feast(1, 1);
        x.feast(1, 1);
        x.feast(2, 2);
        x.say(0, 0, 0);
        x.say(0, 0, 0);
        x.say(2, 0, 1);
        x.say(0, 1, 0);
        x.bid(0, 0, 1);
        x.act(9000, 0, 0, 0);
        Checks.feed(x, "mass");
        x.feed(59, 1);
        int[] want = {2, 5, 3, 4, 2, 0, 2, 1, 5};
        for (int what = 0; what < want.length; what++) {
            c.due("40: all(" + what + ")", x.all(what), want[what]);
        }
        x.day(51);
        c.due("40: GONE by till", x.all(5), 1);
        x.day(60);
        c.due("40: GONE by till and act", x.all(5), 2);
        x.act(1, 10, 10, 0);
        c.due("40: the first GONE, too", x.all(5), 3);
        c.due("40: a text with a fault", x.deeds(), -1000104);
        c.due("40: no bytes", x.all(8), 0);
    }
}
