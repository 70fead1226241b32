import java.util.function.Consumer;

/** What the document says of rolls (and promises 2 to 4), sentence by sentence, on both sides of each boundary. */
final class RollEdgesTest {
    private static final int INVALID = PalletWrapper.INVALID_ARGUMENT;
    private static final int IMPOSSIBLE = PalletWrapper.NOT_POSSIBLE;
    private static final int LIMIT = PalletWrapper.LIMIT_REACHED;
    private static final int NOT_FOUND = PalletWrapper.NOT_FOUND;

    private RollEdgesTest() {
    }

    static void run() {
        lengthAndWeight();
        sixRolls();
        roomForRolls();
        orderOfRolls();
        placesOnARoll();
        strengths();
        rollsThatAreWeakened();
        differentPlaces();
        placesBehindThePosition();
        eightWeakPlaces();
        errorsOfWeaken();
        position();
        whichRoll();
        whichProperty();
        placesBehind();
        noPlaceBehind();
    }

    /** One turn for a pallet of 50 by 50 draws 100 centimetres. */
    private static void drawHundred(PalletWrapper x) {
        x.addPallet(50, 50, 10, 5000, 0);
        x.wrap();
    }

    private static void lengthAndWeight() {
        Checks.sentence(0, "A roll has a length (100 to 100000), a weight in milligrams for each centimetre (1 to 50)");
        for (int length : Wrappers.ends(100, 100000)) {
            for (int weight : Wrappers.ends(1, 50)) {
                PalletWrapper x = new PalletWrapper();
                Checks.due("addRoll(" + length + ", " + weight + ")", x.addRoll(length, weight), 1);
                Checks.due("roll(0, 0)", x.roll(0, 0), length);
                Checks.due("roll(0, 1)", x.roll(0, 1), weight);
            }
        }
        Checks.sentence(2, "`length`: 100 to 100000");
        Wrappers.refusesEach("addRoll(length, 7)", Wrappers::some, (x, length) -> x.addRoll(length, 7), INVALID,
            Wrappers.outside(100, 100000));
        Wrappers.refusesEach("addRoll(length, 7)", Wrappers::nothing, (x, length) -> x.addRoll(length, 7), INVALID,
            -100, 0, 1, 50, 99, 100001);
        Checks.sentence(2, "`weight`: 1 to 50");
        Wrappers.refusesEach("addRoll(500, weight)", Wrappers::some, (x, weight) -> x.addRoll(500, weight), INVALID,
            Wrappers.outside(1, 50));
        Checks.sentence(2, "INVALID_ARGUMENT if an argument is out of range");
        Wrappers.refused("addRoll(99, 0)", Wrappers::nothing, x -> x.addRoll(99, 0), INVALID);
        Wrappers.refused("addRoll(100001, 51)", Wrappers::nothing, x -> x.addRoll(100001, 51), INVALID);
    }

    private static void addRolls(PalletWrapper x, int rolls) {
        for (int i = 0; i < rolls; i++) {
            x.addRoll(100 + i, 1 + i);
        }
    }

    private static void sixRolls() {
        Checks.sentence(0, "There are at most 6 rolls");
        for (int rolls = 0; rolls <= 5; rolls++) {
            PalletWrapper x = new PalletWrapper();
            addRolls(x, rolls);
            Checks.sentence(2, "Returns the number of rolls");
            Checks.due("addRoll(700, 9)", x.addRoll(700, 9), rolls + 1);
            Checks.due("count(0)", x.count(0), rolls + 1);
            Checks.sentence(2, "Adds a roll behind the others.");
            for (int roll = 0; roll < rolls; roll++) {
                Checks.due("roll(" + roll + ", 0)", x.roll(roll, 0), 100 + roll);
            }
            Checks.due("roll(" + rolls + ", 0)", x.roll(rolls, 0), 700);
            Checks.due("roll(" + rolls + ", 1)", x.roll(rolls, 1), 9);
        }
        Checks.sentence(2, "LIMIT_REACHED if there are 6");
        Consumer<PalletWrapper> six = x -> addRolls(x, 6);
        Wrappers.refused("addRoll(100, 1) as the 7th", six, x -> x.addRoll(100, 1), LIMIT);
        Wrappers.refused("addRoll(100000, 50) as the 7th", six, x -> x.addRoll(100000, 50), LIMIT);
        Checks.sentence(0, "If several errors apply to a call, INVALID_ARGUMENT is returned rather than NOT_POSSIBLE, "
            + "NOT_POSSIBLE rather than LIMIT_REACHED, and LIMIT_REACHED rather than NOT_FOUND.");
        Wrappers.refused("addRoll(99, 1) as the 7th", six, x -> x.addRoll(99, 1), INVALID);
        Wrappers.refused("addRoll(100001, 1) as the 7th", six, x -> x.addRoll(100001, 1), INVALID);
        Wrappers.refused("addRoll(100, 0) as the 7th", six, x -> x.addRoll(100, 0), INVALID);
        Wrappers.refused("addRoll(100, 51) as the 7th", six, x -> x.addRoll(100, 51), INVALID);
    }

    private static void roomForRolls() {
        Checks.sentence(2, "LIMIT_REACHED if there are 6");
        PalletWrapper x = Wrappers.withProgram("stay 1");
        addRolls(x, 6);
        drawHundred(x);
        Checks.due("addRoll(500, 1) while the empty first roll is there", x.addRoll(500, 1), LIMIT);
        drawHundred(x);
        Checks.due("count(0) after a change", x.count(0), 5);
        Checks.due("addRoll(500, 1) after a change", x.addRoll(500, 1), 6);
        Checks.due("roll(4, 0)", x.roll(4, 0), 105);
        Checks.due("roll(5, 0)", x.roll(5, 0), 500);
        Checks.due("addRoll(500, 1) as a 7th", x.addRoll(500, 1), LIMIT);
        x.undo();
        Checks.due("addRoll(600, 1) after undo()", x.addRoll(600, 1), 6);
        Checks.due("roll(5, 0)", x.roll(5, 0), 600);
        Checks.due("addRoll(500, 1) as a 7th", x.addRoll(500, 1), LIMIT);
    }

    private static void orderOfRolls() {
        Checks.sentence(0, "the present one, which is the first one, and those behind it, which wait in the order in "
            + "which they were added");
        PalletWrapper x = Wrappers.withProgram("stay 1");
        addRolls(x, 6);
        for (int used = 0; used < 6; used++) {
            drawHundred(x);
            Checks.due("count(0)", x.count(0), 6 - used);
            for (int roll = 0; roll < 6 - used; roll++) {
                Checks.due("roll(" + roll + ", 0)", x.roll(roll, 0), 100 + used + roll);
                Checks.due("roll(" + roll + ", 1)", x.roll(roll, 1), 1 + used + roll);
                Checks.due("roll(" + roll + ", 2)", x.roll(roll, 2), roll == 0 ? 100 : 0);
            }
            Checks.due("done(0, 11)", x.done(0, 11), 100 * (1 + used));
        }
        drawHundred(x);
        Checks.due("count(0) at the end", x.count(0), 0);
        Checks.due("roll(0, 0) at the end", x.roll(0, 0), INVALID);
        Checks.due("done(0, 1) at the end", x.done(0, 1), 1);
        Checks.due("addRoll(300, 1) at the end", x.addRoll(300, 1), 1);
        Checks.due("roll(0, 2) of a new first roll", x.roll(0, 2), 0);
    }

    private static void placesOnARoll() {
        Checks.sentence(0, "places on it (greater than 0 and less than its length");
        for (int length : new int[] {100, 101, 5000, 100000}) {
            Checks.sentence(3, "`place`: the place on the roll");
            for (int place : Wrappers.ends(1, length - 1)) {
                PalletWrapper x = new PalletWrapper();
                x.addRoll(length, 1);
                Checks.due("weaken(0, " + place + ", 3)", x.weaken(0, place, 3), 1);
                Checks.due("roll(0, 4)", x.roll(0, 4), place);
            }
            Checks.sentence(3, "place is not greater than 0 and less than its length");
            Wrappers.refusesEach("weaken(0, place, 3)", x -> x.addRoll(length, 1), (x, place) -> x.weaken(0, place, 3),
                INVALID, Wrappers.outside(1, length - 1));
        }
        Consumer<PalletWrapper> two = x -> {
            x.addRoll(100, 1);
            x.addRoll(200, 1);
        };
        Wrappers.refused("weaken(0, 199, 3) of 100", two, x -> x.weaken(0, 199, 3), INVALID);
        Wrappers.refused("weaken(1, 200, 3) of 200", two, x -> x.weaken(1, 200, 3), INVALID);
        PalletWrapper x = new PalletWrapper();
        two.accept(x);
        Checks.due("weaken(1, 199, 3) of 200", x.weaken(1, 199, 3), 1);
        Checks.due("weaken(0, 99, 3) of 100", x.weaken(0, 99, 3), 1);
    }

    private static void strengths() {
        Checks.sentence(0, "with a strength (0 to 199)");
        for (int strength : Wrappers.ends(0, 199)) {
            PalletWrapper x = new PalletWrapper();
            x.addRoll(500, 1);
            Checks.due("weaken(0, 20, " + strength + ")", x.weaken(0, 20, strength), 1);
            Checks.due("roll(0, 5)", x.roll(0, 5), strength);
        }
        Checks.sentence(3, "`strength`: 0 to 199");
        Wrappers.refusesEach("weaken(0, 700, strength)", Wrappers::some, (x, strength) -> x.weaken(0, 700, strength),
            INVALID, Wrappers.outside(0, 199));
        Checks.sentence(3, "or strength is out of range");
        Wrappers.refused("weaken(1, 1, 200)", Wrappers::some, x -> x.weaken(1, 1, 200), INVALID);
    }

    private static void rollsThatAreWeakened() {
        Checks.sentence(3, "INVALID_ARGUMENT if there is no such roll");
        Wrappers.refusesEach("weaken(roll, 50, 5)", Wrappers::nothing, (x, roll) -> x.weaken(roll, 50, 5), INVALID,
            -1, 0, 1, 5, 6, Integer.MIN_VALUE, Integer.MAX_VALUE);
        Wrappers.refusesEach("weaken(roll, 650, 5)", Wrappers::some, (x, roll) -> x.weaken(roll, 650, 5), INVALID,
            Wrappers.outside(0, 1));
        Wrappers.refusesEach("weaken(roll, 50, 5)", x -> addRolls(x, 6), (x, roll) -> x.weaken(roll, 50, 5), INVALID,
            Wrappers.outside(0, 5));
        Checks.sentence(3, "`roll`: 0 for the present roll, and so on");
        PalletWrapper x = new PalletWrapper();
        addRolls(x, 6);
        for (int roll = 5; roll >= 0; roll--) {
            Checks.due("weaken(" + roll + ", 50, 5)", x.weaken(roll, 50 + roll, 5 + roll), 1);
        }
        for (int roll = 0; roll < 6; roll++) {
            Checks.due("roll(" + roll + ", 4)", x.roll(roll, 4), 50 + roll);
            Checks.due("roll(" + roll + ", 5)", x.roll(roll, 5), 5 + roll);
        }
        rollsBehindOneThatIsGone();
    }

    private static void rollsBehindOneThatIsGone() {
        PalletWrapper x = Wrappers.withProgram("stay 1");
        addRolls(x, 2);
        x.weaken(0, 30, 199);
        x.weaken(0, 40, 199);
        drawHundred(x);
        drawHundred(x);
        Checks.due("weaken(1, 50, 5) after a change", x.weaken(1, 50, 5), INVALID);
        Checks.due("weaken(0, 100, 5), where the present one is drawn to", x.weaken(0, 100, 5), IMPOSSIBLE);
        x.addRoll(300, 2);
        Checks.due("weaken(1, 30, 5) of a new roll", x.weaken(1, 30, 5), 1);
        Checks.due("weaken(1, 299, 5) of a new roll", x.weaken(1, 299, 5), 2);
    }

    private static void differentPlaces() {
        Checks.sentence(0, "and less than its length, all different");
        int[] places = {1, 2, 300, 301, 302, 998, 999};
        Consumer<PalletWrapper> weak = x -> {
            x.addRoll(1000, 5);
            for (int place : places) {
                x.weaken(0, place, 70);
            }
        };
        Checks.sentence(3, "NOT_POSSIBLE if there is a weak place there");
        for (int place : places) {
            Wrappers.refused("weaken(0, " + place + ", 70) again", weak, x -> x.weaken(0, place, 70), IMPOSSIBLE);
            Wrappers.refused("weaken(0, " + place + ", 0) again", weak, x -> x.weaken(0, place, 0), IMPOSSIBLE);
        }
        for (int place : new int[] {3, 299, 303, 997}) {
            PalletWrapper x = new PalletWrapper();
            weak.accept(x);
            Checks.due("weaken(0, " + place + ", 70) beside others", x.weaken(0, place, 70), 8);
        }
        PalletWrapper x = new PalletWrapper();
        weak.accept(x);
        x.addRoll(1000, 5);
        Checks.due("weaken(1, 300, 70) of another roll", x.weaken(1, 300, 70), 1);
        PalletWrapper undone = new PalletWrapper();
        undone.addRoll(1000, 5);
        undone.weaken(0, 300, 70);
        undone.undo();
        Checks.due("weaken(0, 300, 60) after undo()", undone.weaken(0, 300, 60), 1);
        Checks.due("weaken(0, 300, 60) again", undone.weaken(0, 300, 60), IMPOSSIBLE);
    }

    /** A roll of 1000 of which 100 have been drawn, and one of 500. */
    private static void drawn(PalletWrapper x) {
        Wrappers.program(x, "stay 1");
        x.addRoll(1000, 5);
        x.addRoll(500, 5);
        drawHundred(x);
    }

    private static void placesBehindThePosition() {
        Checks.sentence(3, "or place is at most the position of the roll");
        Wrappers.refusesEach("weaken(0, place, 5)", RollEdgesTest::drawn, (x, place) -> x.weaken(0, place, 5),
            IMPOSSIBLE, 1, 2, 50, 99, 100);
        for (int place : new int[] {101, 102, 999}) {
            PalletWrapper x = new PalletWrapper();
            drawn(x);
            Checks.due("weaken(0, " + place + ", 5)", x.weaken(0, place, 5), 1);
            Checks.due("weaken(1, 1, 5)", x.weaken(1, 1, 5), 1);
        }
        Wrappers.refusesEach("weaken(0, place, 5)", RollEdgesTest::drawn, (x, place) -> x.weaken(0, place, 5), INVALID,
            0, -1, 1000);
        Consumer<PalletWrapper> empty = x -> {
            Wrappers.program(x, "stay 1");
            x.addRoll(100, 5);
            drawHundred(x);
        };
        Wrappers.refusesEach("weaken(0, place, 5) of an empty roll", empty, (x, place) -> x.weaken(0, place, 5),
            IMPOSSIBLE, 1, 99);
        Wrappers.refusesEach("weaken(0, place, 5) of an empty roll", empty, (x, place) -> x.weaken(0, place, 5),
            INVALID, 0, 100, 101);
    }

    /** The first roll is drawn up to 100 and has 8 weak places, so many of them up to there. */
    private static void weakPlaces(PalletWrapper x, int passed, int behind) {
        Wrappers.program(x, "stay 1");
        x.addRoll(1000, 5);
        x.addRoll(500, 5);
        for (int i = 0; i < passed; i++) {
            x.weaken(0, 100 - i, 199);
        }
        drawHundred(x);
        for (int i = 0; i < behind; i++) {
            x.weaken(0, 500 + 10 * i, 100 + i);
        }
    }

    private static void eightWeakPlaces() {
        Checks.sentence(0, "and at most 8 weak places");
        Checks.sentence(3, "Gives a roll a weak place.");
        Checks.sentence(3, "Returns the number of weak places of the roll");
        PalletWrapper counted = new PalletWrapper();
        counted.addRoll(1000, 5);
        for (int weak = 1; weak <= 8; weak++) {
            Checks.due("weaken as number " + weak, counted.weaken(0, 800 - weak, 5), weak);
            Checks.due("roll(0, 3)", counted.roll(0, 3), weak);
        }
        Checks.due("weaken as number 9", counted.weaken(0, 900, 5), LIMIT);
        counted.undo();
        Checks.due("weaken as number 8 after undo()", counted.weaken(0, 900, 5), 8);
        Checks.due("weaken as number 9", counted.weaken(0, 901, 5), LIMIT);
        Checks.sentence(3, "LIMIT_REACHED if it has 8 weak places (those at or before its position counted, too)");
        for (int passed = 0; passed <= 8; passed++) {
            int before = passed;
            Consumer<PalletWrapper> eight = x -> weakPlaces(x, before, 8 - before);
            Wrappers.refused("weaken as number 9, " + passed + " passed", eight, x -> x.weaken(0, 505, 5), LIMIT);
            if (passed < 8) {
                PalletWrapper x = new PalletWrapper();
                weakPlaces(x, before, 7 - before);
                Checks.due("weaken as number 8, " + passed + " passed", x.weaken(0, 505, 5), 8);
                Checks.due("roll(0, 3)", x.roll(0, 3), 8 - passed);
                Checks.due("weaken of another roll", x.weaken(1, 505 - 100, 5), 1);
            }
        }
    }

    private static void errorsOfWeaken() {
        Checks.sentence(0, "If several errors apply to a call, INVALID_ARGUMENT is returned rather than NOT_POSSIBLE, "
            + "NOT_POSSIBLE rather than LIMIT_REACHED, and LIMIT_REACHED rather than NOT_FOUND.");
        Consumer<PalletWrapper> eight = x -> weakPlaces(x, 2, 6);
        // A weak place there, and 8 of them.
        Wrappers.refused("weaken(0, 510, 5)", eight, x -> x.weaken(0, 510, 5), IMPOSSIBLE);
        // At most the position (with a weak place there, or not), and 8 of them.
        Wrappers.refused("weaken(0, 100, 5)", eight, x -> x.weaken(0, 100, 5), IMPOSSIBLE);
        Wrappers.refused("weaken(0, 98, 5)", eight, x -> x.weaken(0, 98, 5), IMPOSSIBLE);
        // All three.
        Wrappers.refused("weaken(0, 510, 200)", eight, x -> x.weaken(0, 510, 200), INVALID);
        Wrappers.refused("weaken(0, 98, -1)", eight, x -> x.weaken(0, 98, -1), INVALID);
        Wrappers.refused("weaken(0, 0, 5)", eight, x -> x.weaken(0, 0, 5), INVALID);
        Wrappers.refused("weaken(2, 510, 5)", eight, x -> x.weaken(2, 510, 5), INVALID);
        Wrappers.refused("weaken(-1, 510, 5)", eight, x -> x.weaken(-1, 510, 5), INVALID);
        // Out of range, and 8 of them.
        Wrappers.refused("weaken(0, 1000, 5)", eight, x -> x.weaken(0, 1000, 5), INVALID);
        Wrappers.refused("weaken(0, 505, 200)", eight, x -> x.weaken(0, 505, 200), INVALID);
        Wrappers.refused("weaken(0, 505, -1)", eight, x -> x.weaken(0, 505, -1), INVALID);
        // Out of range, and a weak place there.
        Wrappers.refused("weaken(0, 600, 200)", Wrappers::some, x -> x.weaken(0, 600, 200), INVALID);
    }

    private static void position() {
        Checks.sentence(0, "Its position is the length that has been drawn from it, initially 0; "
            + "its rest is its length minus its position.");
        PalletWrapper x = Wrappers.withProgram("stay 1");
        x.addRoll(301, 5);
        x.addRoll(150, 5);
        Checks.due("roll(0, 2)", x.roll(0, 2), 0);
        for (int drawn = 100; drawn <= 300; drawn += 100) {
            drawHundred(x);
            Checks.due("roll(0, 2)", x.roll(0, 2), drawn);
            Checks.due("roll(1, 2)", x.roll(1, 2), 0);
        }
        drawHundred(x);
        Checks.due("total(2), the rest", x.total(2), 1);
        Checks.due("roll(0, 2) of the next one", x.roll(0, 2), 100);
        Checks.sentence(0, "Lengths of film are whole numbers of centimetres, not stretched.");
        Wrappers.program(x, "stretch 300, stay 1");
        drawHundred(x);
        Checks.due("roll(0, 2), of 200 stretched fourfold", x.roll(0, 2), 150);
        Checks.due("done(0, 4), of 200 stretched fourfold", x.done(0, 4), 50);
    }

    private static void whichRoll() {
        Checks.sentence(4, "INVALID_ARGUMENT if there is no such roll or what is out of range");
        for (int what = 0; what <= 5; what++) {
            int asked = what;
            Wrappers.refusesEach("roll(roll, " + what + ")", Wrappers::nothing, (x, roll) -> x.roll(roll, asked),
                INVALID, -1, 0, 1, Integer.MIN_VALUE, Integer.MAX_VALUE);
            Wrappers.refusesEach("roll(roll, " + what + ")", Wrappers::some, (x, roll) -> x.roll(roll, asked), INVALID,
                -1, 2, 3, 5, 6, Integer.MIN_VALUE, Integer.MAX_VALUE);
            Wrappers.refusesEach("roll(roll, " + what + ")", x -> addRolls(x, 6), (x, roll) -> x.roll(roll, asked),
                INVALID, Wrappers.outside(0, 5));
        }
    }

    private static void whichProperty() {
        Checks.sentence(4, "Returns a property of a roll.");
        Checks.sentence(4, "`what`: 0: its length; 1: its weight for each centimetre; 2: its position; 3: the number of "
            + "its weak places behind its position; 4: the next weak place behind its position; 5: the strength of that one");
        int[][] due = {{1000, 5, 420, 1, 600, 30}, {700, 9, 0, 1, 300, 10}};
        Checks.sentence(4, "`roll`: 0 for the present roll, and so on");
        for (int roll = 0; roll <= 1; roll++) {
            int asked = roll;
            for (int what = 0; what <= 5; what++) {
                int property = what;
                Checks.sentence(4, "Returns the property");
                Wrappers.changesNothing("roll(" + roll + ", " + what + ")", Wrappers::some,
                    x -> x.roll(asked, property), due[roll][what]);
            }
            Checks.sentence(4, "INVALID_ARGUMENT if there is no such roll or what is out of range");
            Wrappers.refusesEach("roll(" + roll + ", what)", Wrappers::some, (x, what) -> x.roll(asked, what), INVALID,
                Wrappers.outside(0, 5));
        }
    }

    private static void placesBehind() {
        Checks.sentence(4, "3: the number of its weak places behind its position; 4: the next weak place behind its "
            + "position; 5: the strength of that one");
        int[][] rows = {{99, 0, NOT_FOUND, NOT_FOUND}, {100, 0, NOT_FOUND, NOT_FOUND}, {101, 1, 101, 177}};
        for (int[] row : rows) {
            PalletWrapper x = Wrappers.withProgram("stay 1");
            x.addRoll(1000, 5);
            x.weaken(0, row[0], 177);
            Checks.due("roll(0, 3) before", x.roll(0, 3), 1);
            drawHundred(x);
            for (int what = 3; what <= 5; what++) {
                Checks.due("roll(0, " + what + ") for one at " + row[0], x.roll(0, what), row[what - 2]);
            }
        }
        // The nearest one, in whatever order they were added.
        PalletWrapper x = new PalletWrapper();
        x.addRoll(1000, 5);
        int[][] added = {{500, 500, 1}, {501, 500, 1}, {499, 499, 3}, {2, 2, 4}, {3, 2, 4}, {1, 1, 6}, {999, 1, 6}};
        for (int i = 0; i < added.length; i++) {
            x.weaken(0, added[i][0], i + 1);
            Checks.due("roll(0, 3)", x.roll(0, 3), i + 1);
            Checks.due("roll(0, 4)", x.roll(0, 4), added[i][1]);
            Checks.due("roll(0, 5)", x.roll(0, 5), added[i][2]);
        }
    }

    private static void noPlaceBehind() {
        Checks.sentence(4, "NOT_FOUND for 4 and 5 if there is none");
        Consumer<PalletWrapper> one = x -> x.addRoll(1000, 5);
        Consumer<PalletWrapper> passed = x -> weakPlaces(x, 8, 0);
        for (int what = 4; what <= 5; what++) {
            int asked = what;
            Wrappers.refused("roll(0, " + what + ") without weak places", one, x -> x.roll(0, asked), NOT_FOUND);
            Wrappers.refused("roll(0, " + what + ") with 8 passed", passed, x -> x.roll(0, asked), NOT_FOUND);
            Checks.sentence(4, "NOT_FOUND for 4 and 5 if there is none");
        }
        Wrappers.changesNothing("roll(0, 3) without weak places", one, x -> x.roll(0, 3), 0);
        Wrappers.changesNothing("roll(0, 3) with 8 passed", passed, x -> x.roll(0, 3), 0);
        Wrappers.refused("roll(0, 6) without weak places", one, x -> x.roll(0, 6), INVALID);
        Wrappers.refused("roll(1, 4) without weak places", one, x -> x.roll(1, 4), INVALID);
    }
}
