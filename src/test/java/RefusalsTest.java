import java.util.HashMap;
import java.util.List;
import java.util.Map;
import java.util.function.Supplier;

/**
 * Each refusal and each finding that a promise names: the answer, of two that fit the one that comes first, and that
 * nothing is changed by it but status().
 */
final class RefusalsTest {
    private static final Checks c = new Checks("RefusalsTest");
    private static final int BAD = Checks.BAD;
    private static final int STATE = Checks.STATE;
    private static final int FULL = Checks.FULL;
    private static final int NULL = Checks.NULL;
    private static final int PLACE = Checks.PLACE;
    private static final int KIND = Checks.KIND;
    private static final int SIZE = Checks.SIZE;
    private static final int STORE = Checks.STORE;

    private static final Map<Supplier<ChantryRolls>, List<String>> SEEN = new HashMap<>();
    private static final Supplier<ChantryRolls> NEW = ChantryRolls::new;
    private static final Supplier<ChantryRolls> SOME = States::some;
    private static final Supplier<ChantryRolls> ALL = States::full;

    public static void main(String[] args) {
        theStates();
        ofANewObject();
        sheets();
        sheetsInOrder();
        deedsAndFeasts();
        lines();
        linesInOrder();
        joins();
        houses();
        naming();
        namingInOrder();
        acts();
        asked();
        whenFull();
        badAheadOfFull();
        c.finish();
    }

    /** That the objects are as the tests below take them to be. */
    private static void theStates() {
        int[] some = {4, 3, 1, 3, 2, 0, 1, 1, 11};
        int[] full = {8, 12, 30, 60, 55, 0, 10, 20, 500};
        ChantryRolls x = States.some();
        ChantryRolls y = States.full();
        for (int what = 0; what < some.length; what++) {
            c.due("some, all(" + what + ")", x.all(what), some[what]);
            c.due("full, all(" + what + ")", y.all(what), full[what]);
        }
        c.due("some, status", x.status(), 4);
        c.due("full, status", y.status(), 4);
    }

    /** Answers due, status as due, and all else as if the call had not been made. */
    private static void refused(Supplier<ChantryRolls> state, int due, String... calls) {
        List<String> ahead = SEEN.computeIfAbsent(state, Looks::at);
        for (String call : calls) {
            ChantryRolls x = state.get();
            int was = x.status();
            c.due(call, Calls.make(x, call), due);
            boolean finding = due <= NULL && due >= STORE;
            c.due("41: behind " + call, x.status(), finding ? -1000010 - due : was);
            List<String> behind = Looks.at(() -> {
                ChantryRolls y = state.get();
                Calls.make(y, call);
                return y;
            });
            String changed = Looks.difference(ahead, behind);
            c.due(call + " changes nothing: " + changed, changed.isEmpty() ? 1 : 0, 1);
        }
    }

    /** There is no sheet, no promise, no line. */
    private static void ofANewObject() {
        refused(NEW, NULL, "set(0, 0, 0)", "set(7, 0, 0)", "copy(0, 0, 0, 0, 0)", "copy(0, 0, 7, 0, 1)", "drop(0)",
                "drop(7)", "lines(0, 0, 1)");
        refused(NEW, SIZE, "sheet(0, 0, -1)");
        refused(NEW, BAD, "told(0, 0)", "count(0, 0, 0)", "say(0, 0, 0)", "good(0)", "join(0, 1, 0)", "split(0, 1)",
                "comes(0, 0, 0)", "fails(0)", "vacant(0, 0, 0, 0, 0)", "turn(0, 0)", "taken(0)", "dawn(1, 0, NONE)",
                "kind(0)", "as(0, 0)", "ask(0, 0)");
    }

    private static void sheets() {
        refused(SOME, BAD, "sheet(-1, 0, 1)", "sheet(8, 0, 1)", "sheet(0, -1, 1)", "sheet(0, 3, 1)", "sheet(0, 0, 61)");
        refused(SOME, SIZE, "sheet(0, 2, -1)", "sheet(1, 0, MIN)", "sheet(5, 2, -1)");
        refused(SOME, BAD, "set(-1, 0, 5)", "set(8, 0, 5)");
        refused(SOME, NULL, "set(4, 0, 5)");
        refused(SOME, PLACE, "set(0, -1, 5)", "set(0, 60, 5)", "set(1, 6, 5)", "set(3, 0, 5)", "set(0, MAX, 5)");
        refused(SOME, BAD, "copy(-1, 0, 0, 0, 1)", "copy(8, 0, 0, 0, 1)", "copy(0, 0, -1, 0, 1)",
                "copy(0, 0, 8, 0, 1)");
        refused(SOME, NULL, "copy(4, 0, 0, 0, 1)", "copy(0, 0, 4, 0, 1)", "copy(4, 0, 5, 0, 1)");
        refused(SOME, STORE, "copy(0, 0, 1, 0, 1)", "copy(1, 0, 2, 0, 1)", "copy(2, 0, 0, 0, 1)", "copy(3, 0, 1, 0, 0)");
        refused(SOME, PLACE, "copy(0, -1, 0, 0, 1)", "copy(0, 0, 0, -1, 1)", "copy(0, 0, 0, 1, -1)",
                "copy(0, 60, 0, 0, 1)", "copy(0, 0, 0, 60, 1)", "copy(0, 0, 0, 1, 60)", "copy(0, 1, 0, 0, 60)",
                "copy(0, 61, 0, 0, 0)", "copy(0, 0, 0, 61, 0)", "copy(0, 0, 3, 0, 1)", "copy(3, 0, 0, 0, 1)",
                "copy(0, MAX, 0, 1, MAX)", "copy(0, 1, 0, MAX, MAX)", "copy(0, 1, 0, 0, MAX)", "copy(1, 1, 1, 0, 6)");
        refused(SOME, BAD, "drop(-1)", "drop(8)");
        refused(SOME, NULL, "drop(4)", "drop(7)");
    }

    /** Where several fit: BAD, then of the findings the first in time. */
    private static void sheetsInOrder() {
        refused(SOME, BAD, "sheet(-1, 0, -1)", "sheet(8, 0, -1)", "sheet(0, 3, -1)", "sheet(0, -1, -1)",
                "sheet(8, 3, 61)");
        refused(SOME, BAD, "set(8, -1, 0)", "set(-1, 60, 0)");
        refused(SOME, NULL, "set(4, -1, 0)", "set(4, 60, 0)");
        refused(SOME, BAD, "copy(4, 0, 8, 0, 0)", "copy(8, 0, 4, 0, 0)", "copy(8, -1, 0, 0, 1)", "copy(1, 0, 8, -1, 1)");
        refused(SOME, NULL, "copy(4, -1, 0, 0, 1)", "copy(0, 0, 4, -1, 1)", "copy(4, 0, 1, 0, -1)",
                "copy(1, 0, 4, 0, 61)");
        refused(SOME, STORE, "copy(0, -1, 1, 0, 1)", "copy(0, 0, 1, -1, 1)", "copy(0, 0, 1, 0, -1)",
                "copy(0, 0, 1, 0, 7)", "copy(2, 6, 1, 6, 1)");
    }

    private static void deedsAndFeasts() {
        refused(SOME, BAD, "feed(59, 0)", "feed(59, 9)", "feed(59, -1)", "feed(59, MIN)", "feed(59, MAX)");
        refused(SOME, BAD, "told(-1, 0)", "told(3, 0)", "told(0, -1)", "told(0, 11)", "told(3, 11)");
        refused(SOME, BAD, "feast(-1, 1)", "feast(10000, 1)", "feast(0, 0)", "feast(0, 3)");
        refused(SOME, BAD, "count(-1, 0, 0)", "count(3, 0, 0)", "count(0, -1, 0)", "count(0, 10000, 0)",
                "count(0, 0, -1)", "count(0, 0, 3)");
    }

    private static void lines() {
        refused(SOME, BAD, "vow(-1, 3)", "vow(8, 3)", "vow(1, 0)", "vow(1, 4)");
        refused(SOME, BAD, "sick(-1, 0, 9999)", "sick(8, 0, 9999)", "sick(1, -1, 9999)", "sick(1, 0, 10000)",
                "sick(1, 10000, 10000)", "sick(1, 21, 20)", "sick(1, 20, -1)");
        refused(SOME, BAD, "say(-1, 20, 0)", "say(3, 20, 0)", "say(0, -1, 0)", "say(0, 10000, 0)", "say(0, 20, -1)",
                "say(0, 20, 5)");
        refused(SOME, BAD, "lines(-1, 0, 1)", "lines(8, 0, 1)", "lines(0, 0, 0)", "lines(0, 0, 21)", "lines(0, 0, -1)",
                "lines(0, 0, MIN)", "lines(0, 0, MAX)");
        refused(SOME, NULL, "lines(4, 0, 1)", "lines(7, 0, 20)");
        refused(SOME, PLACE, "lines(0, -1, 1)", "lines(0, 58, 1)", "lines(0, 1, 20)", "lines(3, 0, 1)",
                "lines(1, 4, 1)", "lines(1, 1, 2)", "lines(1, 0, 3)", "lines(0, MAX, 1)", "lines(0, MIN, 1)");
        refused(SOME, BAD, "good(-1)", "good(3)", "good(MAX)", "good(MIN)");
    }

    private static void linesInOrder() {
        refused(SOME, BAD, "lines(4, 0, 0)", "lines(4, 0, 21)", "lines(8, -1, 1)", "lines(0, -1, 0)", "lines(0, 60, 21)");
        refused(SOME, NULL, "lines(4, -1, 1)", "lines(4, 60, 20)");
    }

    private static void joins() {
        refused(SOME, BAD, "join(-1, 1, 0)", "join(3, 1, 0)", "join(1, -1, 0)", "join(1, 3, 0)", "join(1, 1, 0)",
                "join(0, 1, -1)", "join(0, 1, 10000)");
        refused(SOME, STATE, "join(0, 1, 500)", "join(1, 0, 499)", "join(2, 1, 9999)", "join(1, 2, 0)",
                "join(0, 2, 500)", "join(2, 0, 501)");
        refused(SOME, BAD, "join(0, 0, 500)", "join(0, 3, 500)", "join(0, 1, 10000)");
        refused(SOME, BAD, "split(-1, 501)", "split(3, 501)", "split(0, -1)", "split(0, 10000)");
        refused(SOME, STATE, "split(1, 501)", "split(0, 500)", "split(2, 499)", "split(0, 0)");
        refused(SOME, BAD, "split(3, 0)", "split(1, 10000)");
    }

    private static void houses() {
        refused(SOME, BAD, "house(-1, 0, 5)", "house(6, 0, 5)", "house(1, -1, 5)", "house(1, 2, 5)", "house(1, 0, -1)",
                "house(1, 0, 10001)", "house(1, 1, -1)", "house(1, 1, 101)");
        refused(SOME, BAD, "repair(-1, 1, 5)", "repair(6, 1, 5)", "repair(1, -1, 5)", "repair(1, 28, 5)",
                "repair(1, 1, 0)", "repair(1, 1, 10001)", "repair(1, 1, -1)");
        refused(SOME, BAD, "empty(-1, 0, 9)", "empty(6, 0, 9)", "empty(1, -1, 9)", "empty(1, 0, 10000)",
                "empty(1, 10000, 10000)", "empty(1, 9, 8)");
        refused(SOME, BAD, "rent(-1, 0)", "rent(6, 0)", "rent(1, -1)", "rent(1, 28)");
        refused(SOME, BAD, "comes(-1, 0, 0)", "comes(3, 0, 0)", "comes(0, -1, 0)", "comes(0, 28, 0)", "comes(0, 0, -1)",
                "comes(0, 0, 2)");
        refused(SOME, BAD, "fails(-1)", "fails(3)");
        refused(SOME, BAD, "price(-1, 5)", "price(3, 5)", "price(0, -1)", "price(0, 10001)", "price(1, -1)",
                "price(1, 100)", "price(2, -1)", "price(2, 100)");
        refused(SOME, BAD, "spent(-1)", "spent(28)");
    }

    private static void naming() {
        refused(SOME, BAD, "vacant(-1, 0, 0, 0, 1)", "vacant(3, 0, 0, 0, 1)", "vacant(0, -1, 0, 0, 1)",
                "vacant(0, 10000, 0, 0, 1)", "vacant(0, 0, -1, 0, 1)", "vacant(0, 0, 8, 0, 1)",
                "vacant(0, 0, 0, 0, -1)", "vacant(0, 0, 0, 0, 5)");
        refused(SOME, NULL, "vacant(0, 0, 4, 0, 1)", "vacant(0, 0, 4, 0, 0)");
        refused(SOME, PLACE, "vacant(0, 0, 0, -1, 1)", "vacant(0, 0, 0, 59, 1)", "vacant(0, 0, 0, 53, 4)",
                "vacant(0, 0, 0, 61, 0)", "vacant(0, 0, 0, -1, 0)", "vacant(0, 0, 3, 0, 1)", "vacant(0, 0, 3, 1, 0)",
                "vacant(0, 0, 1, 0, 4)", "vacant(0, 0, 0, MAX, 4)", "vacant(0, 0, 0, MIN, 4)");
        refused(SOME, BAD, "turn(-1, 0)", "turn(3, 0)", "turn(0, -1)", "turn(0, 10000)");
        Supplier<ChantryRolls> oddItems = States::withOddItems;
        refused(oddItems, BAD, "vacant(0, 0, 5, 0, 1)", "vacant(0, 0, 5, 2, 1)", "vacant(0, 0, 5, 4, 1)",
                "vacant(0, 0, 5, 6, 1)", "vacant(0, 0, 5, 8, 2)", "vacant(0, 0, 5, 8, 4)");
    }

    private static void namingInOrder() {
        refused(SOME, BAD, "vacant(3, 0, 4, 0, 1)", "vacant(0, 10000, 4, 0, 1)", "vacant(0, 0, 4, 0, 5)",
                "vacant(0, 0, 0, -1, 5)", "vacant(0, -1, 0, 60, 4)");
        refused(SOME, NULL, "vacant(0, 0, 4, -1, 1)", "vacant(0, 0, 4, 60, 4)");
        // An item is looked at last: its places first.
        refused(States::withOddItems, PLACE, "vacant(0, 0, 5, 10, 4)", "vacant(0, 0, 5, 15, 1)");
        refused(States::withOddItems, BAD, "vacant(3, 0, 5, 0, 1)");
    }

    private static void acts() {
        refused(SOME, BAD, "act(-1, 0, 99, 0)", "act(10000, 0, 99, 0)", "act(0, -1, 99, 0)", "act(0, 0, 100, 0)",
                "act(0, 100, 100, 0)", "act(0, 10, 9, 0)", "act(0, 0, -1, 0)", "act(0, 0, 99, -1)", "act(0, 0, 99, 2)");
        refused(SOME, BAD, "taken(-1)", "taken(3)");
        refused(SOME, BAD, "pension(-1, 0)", "pension(8, 0)", "pension(0, -1)", "pension(0, 10000)");
        refused(SOME, BAD, "bid(-1, 0, 5)", "bid(6, 0, 5)", "bid(1, -1, 5)", "bid(1, 10, 5)", "bid(1, 0, 0)",
                "bid(1, 0, 100001)", "bid(1, 0, -1)");
        refused(SOME, BAD, "sold(-1, 0)", "sold(6, 0)", "sold(0, -1)", "sold(0, 10000)");
    }

    private static void asked() {
        refused(SOME, BAD, "dawn(0, 0, 0)", "dawn(8, 0, 0)", "dawn(9, 0, 0)", "dawn(-1, 0, 0)", "dawn(MIN, 0, 0)",
                "dawn(MAX, 0, 0)", "dawn(7, -1, 0)", "dawn(7, 10000, 0)", "dawn(7, 0, -1)", "dawn(7, 0, 12)",
                "dawn(7, 0, MIN)", "dawn(7, 0, MAX)", "dawn(0, 0, NONE)", "dawn(7, -1, NONE)", "dawn(7, 0, -1000001)");
        refused(SOME, BAD, "day(-1)", "day(10000)", "day(MIN)", "day(MAX)");
        refused(SOME, BAD, "kind(-1)", "kind(3)");
        refused(SOME, BAD, "as(-1, 0)", "as(3, 0)", "as(0, -1)", "as(0, 5)", "as(3, 4)", "as(1, 5)");
        refused(SOME, KIND, "as(0, 3)", "as(0, 4)", "as(1, 1)", "as(1, 2)", "as(1, 4)", "as(2, 3)");
        refused(SOME, BAD, "ask(-1, 0)", "ask(3, 0)", "ask(0, -1)", "ask(0, 2)");
        refused(SOME, Checks.NONE, "trace(-1)", "trace(4)", "trace(16)", "trace(MIN)", "trace(MAX)");
        refused(SOME, BAD, "all(-1)", "all(9)", "all(MIN)", "all(MAX)");
    }

    private static void whenFull() {
        refused(ALL, FULL, "feed(59, 1)", "feed(0, 8)", "feast(9999, 1)", "feast(0, 2)", "sick(7, 9999, 9999)",
                "sick(0, 0, 0)", "say(0, 9999, 0)", "say(11, 0, 4)", "repair(5, 27, 1)", "empty(5, 9999, 9999)",
                "act(9999, 0, 99, 0)", "act(0, 0, 99, 0)", "bid(5, 9, 100000)", "bid(0, 0, 1)", "join(2, 3, 500)",
                "join(10, 11, 0)");
        refused(ALL, STATE, "join(0, 2, 500)", "join(2, 1, 90)", "join(0, 1, 0)");
        refused(ALL, BAD, "dawn(511, 0, NONE)", "dawn(4095, 0, 0)", "dawn(4096, 0, 0)", "told(12, 0)", "good(60)");
    }

    private static void badAheadOfFull() {
        refused(ALL, BAD, "feed(59, 0)", "feed(59, 9)", "feast(10000, 1)", "feast(0, 3)", "sick(8, 0, 0)",
                "sick(0, 1, 0)", "say(12, 0, 0)", "say(0, 10000, 0)", "say(0, 0, 5)", "repair(6, 0, 1)",
                "repair(0, 28, 1)", "repair(0, 0, 0)", "empty(6, 0, 0)", "empty(0, 1, 0)", "act(10000, 0, 0, 0)",
                "act(0, 1, 0, 0)", "act(0, 0, 0, 2)", "bid(6, 0, 1)", "bid(0, 10, 1)", "bid(0, 0, 0)",
                "join(2, 2, 500)", "join(2, 12, 500)", "join(2, 3, 10000)", "join(0, 0, 0)");
    }
}
