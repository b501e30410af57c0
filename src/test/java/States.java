/** Objects for the tests of refusals: with nothing told, with some of everything, with all that there is room for. */
final class States {
    private States() {
    }

    /**
     * Three promises, one of everything else, two of them joined; sheet 0 holds 60 ints, 1 six bytes, 2 six shorts,
     * 3 no ints, items 1 and 2 by turns (lines as well as patrons with their days); the others are missing.
     */
    static ChantryRolls some() {
        ChantryRolls x = Checks.with("mass soul 10 altar 1 priest 1 each 5 from 10 till 5000 house 1 pays 50;"
                + "obit soul 20 altar 2 priest 2 house 2 pays 30 bread 4 candle 5;"
                + "mass soul 30 altar 3 priest 3 from 400 house 1 pays 40;");
        x.sheet(0, 2, 60);
        x.sheet(1, 0, 6);
        x.sheet(2, 1, 6);
        x.sheet(3, 2, 0);
        for (int i = 0; i < 60; i++) {
            x.set(0, i, 1 + i % 2);
        }
        for (int i = 0; i < 6; i++) {
            x.set(1, i, 1 + i % 2);
            x.set(2, i, 2 - i % 2);
        }
        Calls.makeAll(x, "feast(15, 1)", "vow(1, 2)", "sick(1, 30, 40)", "say(0, 20, 0)", "say(1, 20, 1)",
                "say(0, 35, 2)", "join(0, 2, 500)", "house(1, 0, 1000)", "house(1, 1, 10)", "house(2, 0, 500)",
                "repair(1, 2, 70)", "empty(1, 400, 420)", "price(0, 150)", "price(1, 3)", "price(2, 7)",
                "vacant(0, 100, 0, 0, 2)", "act(6000, 10, 25, 1)", "bid(1, 5, 900)", "day(600)", "ask(1, 1)");
        Checks.feed(x, "mass soul 9");
        // A finding, so that a refusal which took it back would be seen.
        x.sheet(4, 0, -1);
        return x;
    }

    /** As some(); sheet 5 holds pairs of which the first four, and the sixth, are no patron with his days. */
    static ChantryRolls withOddItems() {
        ChantryRolls x = some();
        Checks.fill(x, 5, 10, 1, -1, 1, 5, 0, 5, 401, 9, 400, 0, -1, 0, 1, 9, 1);
        x.sheet(4, 0, -1);
        return x;
    }

    /** Twelve promises, 500 bytes on the tape, eight sheets, and as many of all else as can be told. */
    static ChantryRolls full() {
        ChantryRolls x = new ChantryRolls();
        StringBuilder text = new StringBuilder();
        for (int p = 0; p < 12; p++) {
            text.append(p % 3 == 2 ? "obit bread2" : "mass").append(" soul").append(p).append("altar").append(p % 4);
            text.append("priest").append(p % 8).append("house").append(p % 6).append("pays").append(5 * p + 9);
            text.append(';');
        }
        Checks.deeds(x, text.toString());
        for (int sheet = 0; sheet < 8; sheet++) {
            x.sheet(sheet, sheet % 3, sheet == 0 ? 60 : 4);
            x.set(sheet, 0, sheet + 1);
            x.set(sheet, 1, 9 - sheet);
        }
        for (int i = 0; i < 60; i++) {
            x.say(i % 12, 7 * i, i % 5);
        }
        for (int i = 0; i < 30; i++) {
            x.feast(11 * i, 1 + i % 2);
        }
        for (int i = 0; i < 20; i++) {
            x.sick(i % 8, 21 * i, 21 * i + 3);
            x.repair(i % 6, i, 50 + i);
            x.empty(i % 6, 300 * i, 300 * i + 70);
            x.bid(i % 6, i % 10, 100 + i);
        }
        for (int i = 0; i < 10; i++) {
            x.join(i % 2, 1 - i % 2, 10 * i);
            if (i < 9) {
                x.split(0, 10 * i + 5);
            }
            x.act(5000 - 100 * i, i, i + 2, i % 2);
        }
        for (int house = 0; house < 6; house++) {
            x.house(house, 0, 1000 + house);
            x.house(house, 1, house);
        }
        Calls.makeAll(x, "vow(3, 3)", "price(0, 9)", "vacant(0, 100, 2, 0, 1)", "vacant(11, 40, 5, 0, 1)", "day(94)",
                "ask(2, 1)");
        Checks.feed(x, " ".repeat(496) + "mass");
        x.sheet(7, 0, -1);
        return x;
    }
}
