/** Promise 34: dawns, by cases worked out by hand and against trying every row. */
final class DawnTest {
    private static final Checks c = new Checks("DawnTest");
    private static final int NO_HOUR = 5;

    public static void main(String[] args) {
        refusals();
        leastRow();
        vowsAndSickness();
        whoGivesWay();
        hoursTakenBack();
        againstEveryRow();
        c.finish();
    }

    private static void refusals() {
        ChantryRolls x = Checks.with("mass soul 0;mass soul 0;mass soul 0;mass soul 0;mass soul 0;mass soul 0;"
                + "mass soul 0;mass soul 0;mass soul 0;mass soul 0;");
        c.allDue("34: BAD", Checks.BAD, x.dawn(0, 0, 0), x.dawn(-1, 0, 0), x.dawn(1 << 10, 0, 0),
                x.dawn(Integer.MIN_VALUE, 0, 0), x.dawn(511, 0, 0), x.dawn(1023, 0, Checks.NONE), x.dawn(1, -1, 0),
                x.dawn(1, 10000, 0), x.dawn(1, 0, -1), x.dawn(1, 0, 12), x.dawn(1 | 1 << 11, 0, 0),
                x.dawn(1, 0, Checks.BAD), x.dawn(0, 0, Checks.NONE));
        c.due("34: eight are fine", x.dawn(255, 0, Checks.NONE), 1);
        c.due("34: the first alone", x.dawn(1, 0, Checks.NONE), 1);
        c.due("34: the first alone, its hour", x.dawn(1, 0, 0), 0);
        c.due("34: the last alone", x.dawn(1 << 9, 0, 9), 0);
        c.due("34: other eight", x.dawn(1020, 9999, 2), 0);
        c.due("34: not of the set", x.dawn(1020, 0, 1), Checks.NONE);
        c.due("34: not even there", x.dawn(1020, 0, 11), Checks.NONE);
        Checks.deeds(x, "mass altar 3 priest 3;mass altar 1 priest 1;");
        c.due("34: of twelve", x.dawn(0xFF0, 0, Checks.NONE), 3);
        c.due("34: the twelfth", x.dawn(0xFF0, 0, 11), 0);
        c.due("34: no thirteenth", x.dawn(1 << 12, 0, 0), Checks.BAD);
    }

    private static void row(String what, ChantryRolls x, int set, int day, int howMany, int... hours) {
        c.due("34: " + what + ", how many", x.dawn(set, day, Checks.NONE), howMany);
        for (int promise = 0; promise < hours.length; promise++) {
            c.due("34: " + what + ", " + promise, x.dawn(set, day, promise), hours[promise]);
        }
    }

    private static void leastRow() {
        ChantryRolls x = Checks.with("mass altar 0 priest 0; mass altar 0 priest 1; mass altar 1 priest 2;"
                + "mass altar 0 priest 3; mass altar 0 priest 4; mass altar 0 priest 5; mass altar 0 priest 6;");
        int none = Checks.NONE;
        row("one altar has five hours", x, 127, 0, 6, 0, 1, 0, 2, 3, 4, none);
        row("fewer", x, 1 | 4 | 64, 0, 3, 0, none, 0, none, none, none, 1);
        x.sick(1, 7, 7);
        row("one is sick", x, 127, 7, 6, 0, none, 0, 1, 2, 3, 4);
        row("the day behind", x, 127, 8, 6, 0, 1, 0, 2, 3, 4, none);
        x.say(0, 0, 0);
        x.act(0, 0, 99, 0);
        row("neither lines nor acts hold", x, 127, 0, 6, 0, 1, 0, 2, 3, 4, none);
    }

    private static void vowsAndSickness() {
        ChantryRolls x = Checks.with("mass altar 0 priest 7; mass altar 1 priest 7; mass altar 2 priest 7;"
                + "mass altar 3 priest 7; mass altar 0 priest 1;");
        int none = Checks.NONE;
        row("vow 1", x, 31, 0, 2, 0, none, none, none, 1);
        x.vow(7, 2);
        row("vow 2", x, 31, 0, 3, 0, 1, none, none, 1);
        x.vow(7, 3);
        row("vow 3", x, 31, 0, 4, 0, 1, 2, none, 1);
        x.sick(7, 0, 0);
        row("sick", x, 31, 0, 1, none, none, none, none, 0);
        row("sick, and alone", x, 15, 0, 0, none, none, none, none, none);
    }

    /** Altar 0 is wanted by six, of whom one has a promise at altar 1 as well: he says that one. */
    private static void whoGivesWay() {
        ChantryRolls x = Checks.with("mass altar 0 priest 0; mass altar 0 priest 1; mass altar 0 priest 2;"
                + "mass altar 0 priest 3; mass altar 0 priest 4; mass altar 0 priest 5; mass altar 1 priest 0;");
        int none = Checks.NONE;
        row("the most come first", x, 127, 0, 6, none, 0, 1, 2, 3, 4, 0);
        x.vow(0, 2);
        row("then the least row", x, 127, 0, 6, 0, 1, 2, 3, 4, none, 1);
    }

    /**
     * Altar 0 has five, so all its hours are needed; at 0 only priest 2 can be there, for the others are at other
     * altars then. So 4 cannot have hour 0, which would be free for it; that is seen at the last promise alone.
     */
    private static void hoursTakenBack() {
        ChantryRolls x = Checks.with("mass altar 2 priest 0; mass altar 1 priest 1; mass altar 0 priest 1;"
                + "mass altar 0 priest 0; mass altar 3 priest 2; mass altar 0 priest 2; mass altar 0 priest 0;"
                + "mass altar 0 priest 2;");
        for (int priest = 0; priest < 3; priest++) {
            x.vow(priest, 3);
        }
        row("an hour is taken back", x, 255, 0, 8, 0, 0, 1, 2, 1, 0, 3, 4);
    }

    /** In every third run all vows are 3 and priests are few, so that hours have to be taken back. */
    private static void againstEveryRow() {
        java.util.Random random = new java.util.Random(34);
        for (int run = 0; run < 240; run++) {
            boolean close = run % 3 == 0;
            int altars = 1 + random.nextInt(4);
            int priests = close ? 3 : 1 + random.nextInt(8);
            int[] altar = new int[8];
            int[] priest = new int[8];
            int[] vow = new int[8];
            boolean[] sick = new boolean[8];
            ChantryRolls x = new ChantryRolls();
            for (int i = 0; i < 8; i++) {
                altar[i] = random.nextInt(altars);
                priest[i] = random.nextInt(priests);
                Checks.deeds(x, "mass altar " + altar[i] + " priest " + priest[i] + ";");
                vow[i] = close ? 3 : 1 + random.nextInt(3);
                x.vow(i, vow[i]);
                sick[i] = !close && random.nextInt(6) == 0;
                if (sick[i]) {
                    x.sick(i, 100, 100);
                }
            }
            Rows rows = new Rows(altar, priest, vow, sick);
            rows.tryFrom(0);
            c.due("34: how many, run " + run, x.dawn(255, 100, Checks.NONE), rows.most);
            for (int i = 0; i < 8; i++) {
                int want = rows.best[i] == NO_HOUR ? Checks.NONE : rows.best[i];
                c.due("34: run " + run + ", promise " + i, x.dawn(255, 100, i), want);
            }
        }
    }

    /** Every row in order, least first; the first of those with the most hours is the best. */
    private static final class Rows {
        private final int[] altar;
        private final int[] priest;
        private final int[] vow;
        private final boolean[] sick;
        private final int[] row = new int[8];
        private int[] best = null;
        private int most = -1;

        Rows(int[] altar, int[] priest, int[] vow, boolean[] sick) {
            this.altar = altar;
            this.priest = priest;
            this.vow = vow;
            this.sick = sick;
        }

        private void tryFrom(int at) {
            if (at == 8) {
                int howMany = 0;
                for (int hour : row) {
                    howMany += hour == NO_HOUR ? 0 : 1;
                }
                if (howMany > most) {
                    most = howMany;
                    best = row.clone();
                }
                return;
            }
            for (int hour = 0; hour <= NO_HOUR; hour++) {
                if (hour == NO_HOUR || may(at, hour)) {
                    row[at] = hour;
                    tryFrom(at + 1);
                }
            }
        }

        private boolean may(int at, int hour) {
            int said = 0;
            for (int i = 0; i < at; i++) {
                if (row[i] != NO_HOUR) {
                    if (row[i] == hour && (altar[i] == altar[at] || priest[i] == priest[at])) {
                        return false;
                    }
                    said += priest[i] == priest[at] ? 1 : 0;
                }
            }
            return !sick[priest[at]] && said < vow[priest[at]];
        }
    }
}
