/** Promises 7 and 8, byte by byte and token by token: where a text stops being one, and what the fault is. */
final class FaultsTest {
    private static final Checks c = new Checks("FaultsTest");
    private static final int FAULT = -1000100;

    public static void main(String[] args) {
        everyByteBetween();
        everyByteAlone();
        everyByteInAWord();
        everyEnd();
        blanks();
        numbersByLength();
        wordsNextToWords();
        ofOneTokenTheLeast();
        everyShortText();
        c.finish();
    }

    private static void reads(String text, int due, int fault) {
        ChantryRolls x = new ChantryRolls();
        c.due("7: " + text, Checks.deeds(x, text), due);
        c.due("8: " + text, x.fault(), fault);
        c.due("7: the tape is empty behind " + text, x.all(8), 0);
        c.due("7: so many of " + text, x.all(1), Math.max(due, 0));
    }

    private static boolean figure(int b) {
        return b >= '0' && b <= '9';
    }

    private static boolean letter(int b) {
        return b >= 'a' && b <= 'z';
    }

    /** Blanks part tokens, figures lengthen the number; all else cannot stand behind it. */
    private static void everyByteBetween() {
        for (int b = 0; b < 256; b++) {
            String text = "mass soul 1" + (char) b + "altar 2;";
            if (b == 32 || b == 10 || figure(b)) {
                reads(text, 1, 0);
            } else {
                reads(text, FAULT - (b == ';' ? 12 : 11), 1);
            }
        }
    }

    private static void everyByteAlone() {
        for (int b = 0; b < 256; b++) {
            boolean blank = b == 32 || b == 10;
            reads("" + (char) b, blank ? 0 : FAULT, blank ? 0 : 1);
            reads("mass soul 1; " + (char) b, blank ? 1 : FAULT - 13, blank ? 0 : 1);
        }
    }

    /** In a word: a letter makes it another word, which is none; all else ends it. */
    private static void everyByteInAWord() {
        for (int b = 0; b < 256; b++) {
            boolean asItIs = b == 's';
            reads("ma" + (char) b + "s soul 1;", asItIs ? 1 : FAULT, asItIs ? 0 : 1);
            boolean parted = b == 32 || b == 10;
            int place = letter(b) ? 5 : parted ? 10 : 9;
            if (figure(b)) {
                // soul, and a number; "s" cannot stand there.
                place = 10;
            }
            reads("mass soul" + (char) b + "s 1;", FAULT - place, 1);
        }
    }

    /** A text that ends too early has its fault where its bytes end, blanks among them. */
    private static void everyEnd() {
        String text = "mass soul 1 till 20;";
        for (int length = 0; length < text.length(); length++) {
            String cut = text.substring(0, length);
            boolean whole = length == 0 || length == 4 || length == 5 || length == 9 || length >= 10 && length <= 12
                    || length == 16 || length >= 17;
            // Else the last word is cut, and is none; it is the first fault then.
            int place = whole ? length : length < 4 ? 0 : length < 9 ? 5 : 12;
            reads(cut, length == 0 ? 0 : FAULT - place, length == 0 ? 0 : 1);
            reads(cut + " \n ", length == 0 ? 0 : FAULT - (whole ? length + 3 : place), length == 0 ? 0 : 1);
        }
        reads(text, 1, 0);
    }

    private static void blanks() {
        reads("mass soul 1;", 1, 0);
        reads("\nmass\nsoul\n1\n;\n", 1, 0);
        reads("  mass  soul  1  ;  ", 1, 0);
        reads("mass soul1;", 1, 0);
        reads("mass soul1altar1;mass soul1;", 2, 0);
        reads("masssoul1;", FAULT, 1);
        reads("mass soulaltar1;", FAULT - 5, 1);
        reads("mass soul 1 2;", FAULT - 12, 1);
        reads("mass\rsoul 1;", FAULT - 4, 1);
        reads(" ".repeat(488) + "mass soul 1;", 1, 0);
        reads(" ".repeat(489) + "mass soul 1", FAULT - 500, 1);
        reads("\n".repeat(500), 0, 0);
    }

    /** Five figures at most; of six and more the number is none, wherever it stands. */
    private static void numbersByLength() {
        for (int zeros = 0; zeros < 12; zeros++) {
            String number = "0".repeat(zeros) + "7";
            boolean fits = zeros <= 4;
            reads("mass soul " + number + ";", fits ? 1 : FAULT - 10, fits ? 0 : 1);
            reads("mass from 7" + "0".repeat(zeros) + ";", zeros <= 3 ? 1 : FAULT - 10, zeros <= 3 ? 0 : fits ? 2 : 1);
        }
        reads("mass soul 123456 7;", FAULT - 10, 1);
        reads("123456", FAULT, 1);
        reads("mass 12345;", FAULT - 5, 1);
        reads("mass soul 1 12345;", FAULT - 12, 1);
        reads("mass soul " + "9".repeat(490), FAULT - 10, 1);
    }

    private static void wordsNextToWords() {
        String[] terms = {"soul", "altar", "priest", "each", "from", "till", "house", "pays", "bread", "candle"};
        for (String term : terms) {
            int at = 6 + term.length();
            reads("mass " + term + " 1;", 1, 0);
            reads("obit " + term + " 1 " + term + " 2;", 1, 0);
            reads("mass " + term + ";", FAULT - at + 1, 1);
            reads("mass " + term, FAULT - at + 1, 1);
            reads("mass " + term + " " + term + ";", FAULT - at, 1);
            reads("mass " + term + " mass;", FAULT - at, 1);
            reads("mass " + term + "s 1;", FAULT - 5, 1);
            reads("mass " + term.substring(1) + " 1;", FAULT - 5, 1);
            reads("mass " + term.substring(0, term.length() - 1) + " 1;", FAULT - 5, 1);
            reads("mass " + term.toUpperCase() + " 1;", FAULT - 5, 1);
            reads(term + " 1;", FAULT, 1);
            reads("mass 1 " + term + ";", FAULT - 5, 1);
            reads("mass " + term + " 1 mass " + term + " 1;", FAULT - at - 2, 1);
        }
    }

    /** With twelve there: a word that cannot stand there is 1, one that could is 3; what is behind it is not read. */
    private static void ofOneTokenTheLeast() {
        String[] texts = {"masses soul 1;", "mass soul 1;", "obit;", "mass", "soul 1;", "5", ";", "obit soul 100;"};
        int[] faults = {1, 3, 3, 3, 1, 1, 1, 3};
        for (int i = 0; i < texts.length; i++) {
            ChantryRolls x = Checks.with("mass soul 1;".repeat(12));
            c.due("7: twelve, and " + texts[i], Checks.deeds(x, "  " + texts[i]), FAULT - 2);
            c.due("8: twelve, and " + texts[i], x.fault(), faults[i]);
            c.due("7: still twelve", x.all(1), 12);
        }
        reads("mass each 0 soul 123456;", FAULT - 10, 2);
        reads("mass soul 123456 each 0;", FAULT - 10, 1);
        reads("mass each 361", FAULT - 10, 2);
    }

    /** Texts of up to five of these, as the plain model reads them. */
    private static void everyShortText() {
        String[] tokens = {"mass ", "obit ", "soul ", "each ", "7", "0 ", "400 ", "123456 ", ";", "x ", ". "};
        int[] at = new int[5];
        int length = 1;
        while (length <= 5) {
            StringBuilder text = new StringBuilder();
            for (int i = 0; i < length; i++) {
                text.append(tokens[at[i]]);
            }
            // Beyond the second token a text that does not begin rightly tells nothing new.
            if (length <= 2 || at[0] <= 1 && at[1] <= 3) {
                compare(text.toString());
            }
            int last = length - 1;
            while (last >= 0 && at[last] == tokens.length - 1) {
                at[last] = 0;
                last--;
            }
            if (last >= 0) {
                at[last]++;
            } else {
                length++;
            }
        }
    }

    private static void compare(String text) {
        ChantryRolls x = new ChantryRolls();
        Oracle y = new Oracle();
        for (int i = 0; i < text.length(); i++) {
            y.feed(text.charAt(i), 1);
        }
        c.due("7: " + text, Checks.deeds(x, text), y.deeds());
        c.due("8: " + text, x.fault(), y.fault());
    }
}
