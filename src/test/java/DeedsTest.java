/** Promises 6 to 11: the tape, deeds and their faults, feasts, what is wanted. */
final class DeedsTest {
    private static final Checks c = new Checks("DeedsTest");

    public static void main(String[] args) {
        feed();
        deeds();
        bounds();
        faults();
        tooMany();
        fullTape();
        feast();
        wanted();
        wantedAtTheEnd();
        c.finish();
    }

    private static void feed() {
        ChantryRolls x = new ChantryRolls();
        c.allDue("6: BAD", Checks.BAD, x.feed(0, 0), x.feed(0, -1), x.feed(0, 9), x.feed(0, Integer.MAX_VALUE));
        c.due("6: one byte", x.feed(0x7777776DL, 1), 1);
        c.due("6: the highest first", x.feed(0x6173L, 2), 3);
        c.due("6: eight bytes", x.feed(0x7320736F756C2038L, 8), 11);
        c.due("6: all(8)", x.all(8), 11);
        x.feed(0x3BL, 1);
        c.due("6: it is read", x.deeds(), 1);
        c.due("6: soul", x.told(0, 1), 8);
        c.due("6: empty then", x.all(8), 0);
        for (int i = 1; i <= 62; i++) {
            c.due("6: blanks", x.feed(0x2020202020202020L, 8), 8 * i);
        }
        c.due("6: FULL", x.feed(0x2020202020L, 5), Checks.FULL);
        c.due("6: none came", x.all(8), 496);
        c.due("6: BAD ahead of FULL", x.feed(0, 9), Checks.BAD);
        c.due("6: 500", x.feed(0x20202020L, 4), 500);
        c.due("6: FULL at 500", x.feed(0x20L, 1), Checks.FULL);
        c.due("6: all of it is read", x.deeds(), 1);
        c.due("6: bytes above 127 are no token", Checks.deeds(x, "mass soul " + (char) 0xB5 + ";"), -1000110);
    }

    private static void deeds() {
        ChantryRolls x = new ChantryRolls();
        c.due("7: nothing", x.deeds(), 0);
        c.due("7: blanks alone", Checks.deeds(x, " \n "), 0);
        c.due("7: close together", Checks.deeds(x, "mass\nsoul5altar2priest7;obit  soul 6 ;"), 2);
        row(x, 0, 0, 5, 2, 7, 1, 0, 9999, 0, 0, 0, 0);
        row(x, 1, 1, 6, 0, 0, 360, 0, 9999, 0, 0, 0, 0);
        c.due("7: all told", Checks.deeds(x, "mass soul 99 altar 3 priest 1 each 360 from 9999 till 0 house 5 pays 100 "
                + "bread 99 candle 98;"), 3);
        row(x, 2, 0, 99, 3, 1, 360, 9999, 0, 5, 100, 99, 98);
        c.due("7: the last one holds", Checks.deeds(x, "obit each 7 soul 1 each 9 soul 00002;"), 4);
        row(x, 3, 1, 2, 0, 0, 9, 0, 9999, 0, 0, 0, 0);
        c.due("7: none comes of a text with a fault", Checks.deeds(x, "mass soul 1; mass soul 2"), -1000124);
        c.due("7: still four", x.all(1), 4);
        c.due("7: the tape is empty", x.all(8), 0);
        c.due("7: what was left is not told", Checks.deeds(x, "obit bread 5;"), 5);
        row(x, 4, 1, 0, 0, 0, 360, 0, 9999, 0, 0, 5, 0);
        c.allDue("9: BAD", Checks.BAD, x.told(-1, 0), x.told(5, 0), x.told(0, -1), x.told(0, 11),
                x.told(Integer.MAX_VALUE, 0), x.told(0, Integer.MIN_VALUE));
    }

    private static void row(ChantryRolls x, int promise, int... want) {
        for (int what = 0; what < want.length; what++) {
            c.due("9: told(" + promise + ", " + what + ")", x.told(promise, what), want[what]);
        }
    }

    private static void bounds() {
        String[] words = {"soul", "altar", "priest", "each", "from", "till", "house", "pays", "bread", "candle"};
        int[] most = {99, 3, 7, 360, 9999, 9999, 5, 100, 99, 99};
        for (int i = 0; i < words.length; i++) {
            ChantryRolls x = new ChantryRolls();
            int least = words[i].equals("each") ? 1 : 0;
            c.due("7: least " + words[i], Checks.deeds(x, "mass " + words[i] + " " + least + ";"), 1);
            c.due("7: least " + words[i] + " is told", x.told(0, i + 1), least);
            c.due("7: most " + words[i], Checks.deeds(x, "obit " + words[i] + " " + most[i] + ";"), 2);
            c.due("7: most " + words[i] + " is told", x.told(1, i + 1), most[i]);
            int place = -1000100 - 6 - words[i].length();
            c.due("7: above " + words[i], Checks.deeds(x, "mass " + words[i] + " " + (most[i] + 1) + ";"), place);
            c.due("8: 2 for " + words[i], x.fault(), 2);
            c.due("7: far above " + words[i], Checks.deeds(x, "mass " + words[i] + " 99999;"), place);
        }
        fault("mass each 0;", 10, 2);
    }

    private static void fault(String text, int place, int number) {
        ChantryRolls x = new ChantryRolls();
        c.due("7: " + text, Checks.deeds(x, text), -1000100 - place);
        c.due("8: " + text, x.fault(), number);
        c.due("7: none of " + text, x.all(1), 0);
        c.due("7: tape behind " + text, x.all(8), 0);
    }

    private static void faults() {
        fault(";", 0, 1);
        fault("5;", 0, 1);
        fault("  mass", 6, 1);
        fault("mass \n", 6, 1);
        fault("mass ;", 5, 1);
        fault("mass 5;", 5, 1);
        fault("mass mass;", 5, 1);
        fault("mass soul", 9, 1);
        fault("mass soul;", 9, 1);
        fault("mass soul soul 1;", 10, 1);
        fault("mass soul 1 2;", 12, 1);
        fault("mass soul 1 obit soul 2;", 12, 1);
        fault("mass soul 1;;", 12, 1);
        fault("mass soul 1; soul 2;", 13, 1);
        fault("massa soul 1;", 0, 1);
        fault("mas soul 1;", 0, 1);
        fault("Mass soul 1;", 0, 1);
        fault("bass soul 1;", 0, 1);
        fault("massz soul 1;", 0, 1);
        fault("massa;", 0, 1);
        fault("mass poul 1;", 5, 1);
        fault("mass soul 1:", 11, 1);
        fault("mass soul 1/2;", 11, 1);
        fault("mass`soul 1;", 4, 1);
        fault("mass{soul 1;", 4, 1);
        fault("mass souls 1;", 5, 1);
        fault("mass sou 1;", 5, 1);
        fault("mass soul -1;", 10, 1);
        fault("mass soul 1, altar 2;", 11, 1);
        fault("mass\tsoul 1;", 4, 1);
        fault("mass soul 000001;", 10, 1);
        fault("mass soul 123456;", 10, 1);
        fault("mass 123456;", 5, 1);
        fault("mass soul 00100;", 10, 2);
        fault("mass soul 100", 10, 2);
        fault("mass soul 1 altar 9 priest;", 18, 2);
        fault("mass soul 1 priest; mass altar 9;", 18, 1);
        fault("mass soul 1; mass altar 9;", 24, 2);
        fault("mass soul 1" + (char) 0, 11, 1);
        ChantryRolls x = new ChantryRolls();
        Checks.deeds(x, "mass each 0;");
        Checks.deeds(x, "mass each 1;");
        c.due("8: the latest one stays", x.fault(), 2);
        Checks.deeds(x, "mass");
        c.due("8: the latest one", x.fault(), 1);
    }

    private static void tooMany() {
        ChantryRolls x = new ChantryRolls();
        String four = "mass soul 1;mass soul 2;mass soul 3;obit soul 4;";
        c.due("7: four", Checks.deeds(x, four), 4);
        c.due("7: eight", Checks.deeds(x, four), 8);
        c.due("7: thirteen", Checks.deeds(x, four + " mass soul 1;"), -1000149);
        c.due("8: 3", x.fault(), 3);
        c.due("7: still eight", x.all(1), 8);
        c.due("7: an earlier fault first", Checks.deeds(x, "mass soul 100;" + four + four), -1000110);
        c.due("8: 2", x.fault(), 2);
        c.due("7: twelve", Checks.deeds(x, four), 12);
        c.due("7: the word, not what is behind it", Checks.deeds(x, " obit mass;"), -1000101);
        c.due("8: 3 again", x.fault(), 3);
        c.due("7: of one token the least", Checks.deeds(x, " obits soul 1;"), -1000101);
        c.due("8: 1", x.fault(), 1);
        c.due("7: nothing more is fine", Checks.deeds(x, ""), 12);
        c.due("9: the twelfth", x.told(11, 1), 4);
        c.due("9: no thirteenth", x.told(12, 1), Checks.BAD);
    }

    private static void fullTape() {
        fault("m".repeat(500), 0, 1);
        fault("5".repeat(500), 0, 1);
        fault(";".repeat(500), 0, 1);
        fault("mass soul " + "5".repeat(490), 10, 1);
        fault(" ".repeat(496) + "mass", 500, 1);
        fault(" ".repeat(490) + "mass soul5", 500, 1);
        ChantryRolls x = new ChantryRolls();
        c.due("7: 500 bytes", Checks.deeds(x, "mass " + "soul 1 ".repeat(70) + "till;"), -1000599);
        c.due("7: 500 bytes, read", Checks.deeds(x, "mass " + "soul 1 ".repeat(69) + "altar 2 ; "
                + "\n"), 1);
        c.due("9: the last of them", x.told(0, 2), 2);
    }

    private static void feast() {
        ChantryRolls x = new ChantryRolls();
        c.allDue("10: BAD", Checks.BAD, x.feast(-1, 1), x.feast(10000, 1), x.feast(0, 0), x.feast(0, 3),
                x.feast(0, -1));
        for (int i = 1; i <= 30; i++) {
            c.due("10: so many", x.feast(i % 3 * 4999 + (i % 3 == 2 ? 1 : 0), i % 2 + 1), i);
        }
        c.due("10: FULL", x.feast(5, 1), Checks.FULL);
        c.due("10: BAD ahead of FULL", x.feast(5, 3), Checks.BAD);
        c.due("10: all(2)", x.all(2), 30);
    }

    private static void wanted() {
        ChantryRolls x = Checks.with("mass from 10 each 10 till 50; mass from 10 till 20; mass from 30 till 20;");
        c.allDue("11: BAD", Checks.BAD, x.count(-1, 0, 0), x.count(3, 0, 0), x.count(0, -1, 0), x.count(0, 10000, 0),
                x.count(0, 0, -1), x.count(0, 0, 3));
        wants(x, 0, 9, 0, 10, 1, 19, 1, 20, 2, 49, 4, 50, 5, 9999, 5);
        wants(x, 1, 0, 0, 10, 1, 11, 2, 20, 11, 21, 11);
        wants(x, 2, 20, 0, 30, 0, 9999, 0);
        x.feast(20, 2);
        wants(x, 0, 19, 1, 20, 1, 21, 1, 30, 2, 50, 4);
        x.feast(30, 1);
        wants(x, 0, 29, 1, 30, 1, 31, 2, 40, 3);
        x.feast(31, 2);
        x.feast(32, 1);
        x.feast(34, 1);
        wants(x, 0, 30, 1, 32, 1, 33, 2, 40, 3);
        x.feast(50, 1);
        c.due("11: moved beyond till", x.count(0, 50, 0), 3);
        c.due("11: moved beyond till, there", x.count(0, 51, 0), 4);
        x.feast(30, 2);
        c.due("11: the highest rank holds", x.count(0, 51, 0), 3);
        x.feast(20, 1);
        c.due("11: a lower rank behind it does not", x.count(0, 51, 0), 3);
        x.feast(12, 1);
        x.feast(13, 1);
        wants(x, 1, 11, 2, 12, 2, 13, 2, 14, 5, 15, 6, 20, 10, 21, 10);
        c.due("11: not wanted, not moved", x.count(0, 14, 0), 1);
        ChantryRolls y = Checks.with("mass each 10;");
        y.feast(0, 2);
        wants(y, 0, 0, 0, 9, 0, 10, 1);
        y.feast(30, 2);
        y.feast(20, 1);
        y.feast(10, 1);
        wants(y, 0, 10, 0, 11, 1, 20, 1, 21, 2, 30, 2, 31, 2, 40, 3);
    }

    /** Pairs of a day and what is wanted till it. */
    private static void wants(ChantryRolls x, int promise, int... pairs) {
        for (int i = 0; i + 1 < pairs.length; i += 2) {
            c.due("11: count(" + promise + ", " + pairs[i] + ", 0)", x.count(promise, pairs[i], 0), pairs[i + 1]);
        }
    }

    private static void wantedAtTheEnd() {
        ChantryRolls x = Checks.with("mass from 0; mass from 9990 each 9; obit from 0 each 1;");
        wants(x, 0, 0, 1, 9999, 10000);
        x.feast(9999, 1);
        wants(x, 0, 9998, 9999, 9999, 9999);
        wants(x, 1, 9990, 1, 9999, 1);
        x.feast(9998, 1);
        wants(x, 0, 9997, 9998, 9999, 9998);
        x.feast(0, 1);
        wants(x, 0, 0, 0, 1, 2, 2, 3);
        c.due("11: of an obit alike", x.count(2, 9999, 0), 9998);
        ChantryRolls y = Checks.with("mass from 9960;");
        for (int day = 9999; day > 9970; day--) {
            y.feast(day, 1);
        }
        wants(y, 0, 9970, 11, 9971, 11, 9999, 11);
        y.feast(9960, 1);
        wants(y, 0, 9960, 0, 9961, 2, 9999, 11);
        ChantryRolls z = Checks.with("mass from 100 till 100;");
        for (int day = 100; day < 130; day++) {
            z.feast(day, 1);
        }
        wants(z, 0, 129, 0, 130, 1);
    }
}
