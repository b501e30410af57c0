/**
 * Runs of calls told as texts, each on a new object: "set(0, 1, 5) = 5" is a call with the answer that is due,
 * "read mass soul 5; = 1" feeds a text and reads it, "30 x feast(5, 1) = 30" is made 30 times, the answer being that
 * of the last one; without " = " no answer is looked at. The words of the document stand for its numbers; "FAULT 4"
 * is what deeds() answers of a fault in place 4.
 */
final class Runs {
    private static final String READ = "read ";
    private static final String TIMES = " x ";
    private static final String DUE = " = ";
    private static final String FAULT = "FAULT ";

    private final Checks c;
    private ChantryRolls x = new ChantryRolls();
    private String sentence = "";

    Runs(String test) {
        c = new Checks(test);
    }

    /** What the document says, word for word: the runs behind it would fail if it did not hold. */
    Runs says(String words) {
        sentence = words;
        return anew();
    }

    Runs anew() {
        x = new ChantryRolls();
        return this;
    }

    Runs run(String... rows) {
        for (String row : rows) {
            int at = row.lastIndexOf(DUE);
            int got = made(at < 0 ? row : row.substring(0, at));
            if (at >= 0) {
                c.due("'" + sentence + "': " + row, got, answer(row.substring(at + DUE.length())));
            }
        }
        return this;
    }

    void finish() {
        c.finish();
    }

    private int made(String call) {
        if (call.startsWith(READ)) {
            return Checks.deeds(x, call.substring(READ.length()));
        }
        int at = call.indexOf(TIMES);
        int times = at < 0 ? 1 : Integer.parseInt(call.substring(0, at));
        int got = 0;
        for (int i = 0; i < times; i++) {
            got = Calls.make(x, at < 0 ? call : call.substring(at + TIMES.length()));
        }
        return got;
    }

    private static long answer(String word) {
        if (word.startsWith(FAULT)) {
            return -1000100 - Integer.parseInt(word.substring(FAULT.length()));
        }
        switch (word) {
            case "BAD":
                return Checks.BAD;
            case "STATE":
                return Checks.STATE;
            case "FULL":
                return Checks.FULL;
            case "NULL":
                return Checks.NULL;
            case "PLACE":
                return Checks.PLACE;
            case "KIND":
                return Checks.KIND;
            case "SIZE":
                return Checks.SIZE;
            case "STORE":
                return Checks.STORE;
            default:
                return Calls.number(word);
        }
    }
}
