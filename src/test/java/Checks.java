/** What the tests share: counting answers that are not as due, and feeding texts to the tape. */
final class Checks {
    static final int NONE = -1000000;
    static final int BAD = -1000001;
    static final int STATE = -1000002;
    static final int FULL = -1000003;
    static final int NULL = -1000011;
    static final int PLACE = -1000012;
    static final int KIND = -1000013;
    static final int SIZE = -1000014;
    static final int STORE = -1000015;

    private final String test;
    private int made = 0;
    private int wrong = 0;

    Checks(String test) {
        this.test = test;
    }

    void due(String what, long got, long want) {
        made++;
        if (got != want) {
            wrong++;
            System.out.println(test + ": " + what + " answered " + got + ", due is " + want);
        }
    }

    /** The same answer is due for each of several calls. */
    void allDue(String what, long want, long... got) {
        for (int i = 0; i < got.length; i++) {
            due(what + ", number " + i, got[i], want);
        }
    }

    void finish() {
        System.out.println(test + ": " + made + " checks, " + wrong + " wrong");
        if (wrong != 0) {
            System.exit(1);
        }
    }

    /** Answers what the last feed() answered. */
    static int feed(ChantryRolls x, String text) {
        int answer = 0;
        for (int at = 0; at < text.length(); at += 8) {
            int n = Math.min(8, text.length() - at);
            long w = 0;
            for (int i = 0; i < n; i++) {
                w = w << 8 | text.charAt(at + i) & 255;
            }
            answer = x.feed(w, n);
        }
        return answer;
    }

    static int deeds(ChantryRolls x, String text) {
        feed(x, text);
        return x.deeds();
    }

    static ChantryRolls with(String text) {
        ChantryRolls x = new ChantryRolls();
        deeds(x, text);
        return x;
    }

    /** Makes a sheet of ints with these items. */
    static void fill(ChantryRolls x, int sheet, int... items) {
        x.sheet(sheet, 2, items.length);
        for (int i = 0; i < items.length; i++) {
            x.set(sheet, i, items[i]);
        }
    }
}
