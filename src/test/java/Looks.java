import java.util.ArrayList;
import java.util.List;
import java.util.function.Supplier;

/**
 * All that calls tell of an object, status() left out. Looking changes it (an item is seen only by what becomes of
 * it), so each part of the look is taken at a new object that was made alike.
 */
final class Looks {
    /** With the calls that make an object this stays below the 512 that it is good for. */
    private static final int CALLS_A_PART = 90;
    private static final int[] DAYS = {0, 1, 9, 10, 15, 16, 20, 35, 94, 95, 100, 499, 500, 4999, 5000, 5001, 6000, 9999};
    private static final String[][] PARTS = parts();

    private Looks() {
    }

    static List<String> at(Supplier<ChantryRolls> maker) {
        List<String> seen = new ArrayList<>();
        for (String[] part : PARTS) {
            ChantryRolls x = maker.get();
            for (String call : part) {
                seen.add(call + " " + Calls.make(x, call));
            }
        }
        return seen;
    }

    /** The first that differs; none, if nothing does. */
    static String difference(List<String> a, List<String> b) {
        for (int i = 0; i < Math.min(a.size(), b.size()); i++) {
            if (!a.get(i).equals(b.get(i))) {
                return a.get(i) + " became " + b.get(i);
            }
        }
        return a.size() == b.size() ? "" : "their number";
    }

    private static String[][] parts() {
        List<List<String>> parts = new ArrayList<>();
        parts.add(counters());
        for (int sheet = 0; sheet < 8; sheet++) {
            parts.add(items(sheet));
        }
        parts.add(tape());
        parts.add(joins());
        List<String> rest = readings();
        for (int from = 0; from < rest.size(); from += CALLS_A_PART) {
            parts.add(rest.subList(from, Math.min(from + CALLS_A_PART, rest.size())));
        }
        String[][] texts = new String[parts.size()][];
        for (int i = 0; i < texts.length; i++) {
            texts[i] = parts.get(i).toArray(new String[0]);
        }
        return texts;
    }

    /** What a change answers of how it was ahead. */
    private static List<String> counters() {
        List<String> calls = new ArrayList<>();
        for (int i = 0; i <= 16; i++) {
            calls.add("trace(" + i + ")");
        }
        for (int priest = 0; priest < 8; priest++) {
            calls.add("vow(" + priest + ", 1)");
        }
        for (int house = 0; house < 6; house++) {
            calls.add("house(" + house + ", 0, 0)");
            calls.add("house(" + house + ", 1, 0)");
        }
        calls.addAll(List.of("price(0, 0)", "price(1, 0)", "price(2, 0)", "day(0)", "feast(9999, 1)",
                "sick(7, 9999, 9999)", "say(0, 9999, 4)", "repair(5, 27, 1)", "empty(5, 9999, 9999)",
                "act(9999, 99, 99, 0)", "bid(5, 9, 1)", "feed(32, 1)"));
        for (int sheet = 0; sheet < 8; sheet++) {
            calls.add("drop(" + sheet + ")");
        }
        return calls;
    }

    /** Each item, as a patron, and the last one, as the days of one. */
    private static List<String> items(int sheet) {
        List<String> calls = new ArrayList<>();
        calls.add("copy(" + sheet + ", 0, " + (sheet < 2 ? 7 : sheet - 1) + ", 0, 0)");
        for (int i = 0; i < 12; i++) {
            calls.add("vacant(0, 0, " + sheet + ", " + i + ", 1)");
            calls.add("turn(0, 0)");
        }
        for (int i : new int[] {0, 2, 4, 58}) {
            calls.add("vacant(0, 0, " + sheet + ", " + i + ", 1)");
            for (int day = 1; day <= 10; day++) {
                calls.add("turn(0, " + day + ")");
            }
        }
        return calls;
    }

    /** What is on the tape, by reading it, with an end put to it. */
    private static List<String> tape() {
        return List.of("all(8)", "feed(59, 1)", "deeds()", "fault()", "told(0, 1)", "told(3, 0)", "told(3, 1)",
                "told(11, 1)", "all(8)");
    }

    private static List<String> joins() {
        List<String> calls = new ArrayList<>();
        for (int day = 0; day < 100; day += 4) {
            calls.add("day(" + day + ")");
            calls.add("kind(0)");
            calls.add("ask(0, 1)");
        }
        calls.addAll(List.of("split(0, 9998)", "split(1, 9998)", "split(2, 9998)", "join(0, 1, 9998)",
                "join(0, 2, 9999)", "split(0, 9999)"));
        return calls;
    }

    private static List<String> readings() {
        List<String> calls = new ArrayList<>();
        for (int what = 0; what <= 8; what++) {
            calls.add("all(" + what + ")");
        }
        calls.add("fault()");
        for (int line = 0; line <= 60; line++) {
            calls.add("good(" + line + ")");
        }
        for (int year = 0; year < 28; year++) {
            calls.add("spent(" + year + ")");
            for (int house = 0; house < 6; house++) {
                calls.add("rent(" + house + ", " + year + ")");
            }
        }
        for (int promise = 0; promise <= 12; promise++) {
            readings(calls, promise);
        }
        for (int day : DAYS) {
            for (int i = 0; i < 8; i++) {
                calls.add("pension(" + i + ", " + day + ")");
                calls.add("sold(" + i + ", " + day + ")");
            }
            calls.add("dawn(7, " + day + ", NONE)");
            calls.add("dawn(255, " + day + ", 7)");
        }
        return calls;
    }

    private static void readings(List<String> calls, int promise) {
        for (int what = 0; what <= 10; what++) {
            calls.add("told(" + promise + ", " + what + ")");
        }
        for (String call : new String[] {"kind(_)", "taken(_)", "fails(_)", "ask(_, 0)", "ask(_, 1)", "as(_, 1)"}) {
            calls.add(call.replace("_", "" + promise));
        }
        for (int day : DAYS) {
            calls.add("count(" + promise + ", " + day + ", 0)");
            calls.add("count(" + promise + ", " + day + ", 1)");
            calls.add("turn(" + promise + ", " + day + ")");
        }
        for (int year : new int[] {0, 1, 2, 13, 27}) {
            calls.add("comes(" + promise + ", " + year + ", 0)");
            calls.add("comes(" + promise + ", " + year + ", 1)");
        }
    }
}
