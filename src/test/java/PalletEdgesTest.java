import java.util.function.Consumer;

/** What the document says of pallets (and promises 5 to 7), sentence by sentence, on both sides of each boundary. */
final class PalletEdgesTest {
    private static final int INVALID = PalletWrapper.INVALID_ARGUMENT;
    private static final int LIMIT = PalletWrapper.LIMIT_REACHED;
    private static final int NOT_FOUND = PalletWrapper.NOT_FOUND;
    /** Least and greatest width, depth, height, corner limit and due time. */
    private static final int[][] RANGES = {{20, 200}, {20, 200}, {10, 250}, {0, 5000}, {0, 9999}};
    private static final int[] ORDINARY = {30, 40, 50, 60, 70};

    private PalletEdgesTest() {
    }

    static void run() {
        ranges();
        bothEndsOfAll();
        eightPallets();
        roomForPallets();
        numbers();
        numbersThatAreNotTaken();
        zones();
        dropped();
        notDropped();
        order();
        orderAfterRemovals();
        whichOne();
        whichProperty();
    }

    private static int add(PalletWrapper x, int[] pallet) {
        return x.addPallet(pallet[0], pallet[1], pallet[2], pallet[3], pallet[4]);
    }

    private static int[] ordinaryBut(int place, int value) {
        int[] pallet = ORDINARY.clone();
        pallet[place] = value;
        return pallet;
    }

    private static void quoteRange(int place) {
        String[] names = {"width", "depth", "height", "limit", "due"};
        Checks.sentence(5, "`" + names[place] + "`: " + RANGES[place][0] + " to " + RANGES[place][1]);
    }

    private static void ranges() {
        Checks.sentence(0, "a width and a depth (20 to 200), a height (10 to 250), a corner limit (0 to 5000), "
            + "and a due time (0 to 9999)");
        for (int place = 0; place < 5; place++) {
            int varied = place;
            for (int value : Wrappers.ends(RANGES[place][0], RANGES[place][1])) {
                quoteRange(place);
                int[] pallet = ordinaryBut(place, value);
                PalletWrapper x = new PalletWrapper();
                Checks.due("addPallet(..) with " + value + " at " + place, add(x, pallet), 0);
                for (int what = 1; what <= 5; what++) {
                    Checks.due("waiting(0, " + what + ")", x.waiting(0, what), pallet[what - 1]);
                }
            }
            Checks.sentence(5, "INVALID_ARGUMENT if an argument is out of range");
            Wrappers.refusesEach("addPallet(..), argument " + place, Wrappers::some,
                (x, value) -> add(x, ordinaryBut(varied, value)), INVALID,
                Wrappers.outside(RANGES[place][0], RANGES[place][1]));
            Checks.sentence(0, "If several errors apply to a call, INVALID_ARGUMENT is returned rather than "
                + "NOT_POSSIBLE, NOT_POSSIBLE rather than LIMIT_REACHED, and LIMIT_REACHED rather than NOT_FOUND.");
            Wrappers.refusesEach("addPallet(..) as the 9th, argument " + place, x -> addOrdinary(x, 8),
                (x, value) -> add(x, ordinaryBut(varied, value)), INVALID, RANGES[place][0] - 1, RANGES[place][1] + 1);
        }
    }

    private static void bothEndsOfAll() {
        Checks.sentence(5, "INVALID_ARGUMENT if an argument is out of range");
        PalletWrapper x = new PalletWrapper();
        Checks.due("addPallet(20, 20, 10, 0, 0)", x.addPallet(20, 20, 10, 0, 0), 0);
        Checks.due("addPallet(200, 200, 250, 5000, 9999)", x.addPallet(200, 200, 250, 5000, 9999), 1);
        Consumer<PalletWrapper> none = Wrappers::nothing;
        Wrappers.refused("addPallet(0, 0, 0, 0, 0)", none, y -> y.addPallet(0, 0, 0, 0, 0), INVALID);
        Wrappers.refused("addPallet(19, 19, 9, -1, -1)", none, y -> y.addPallet(19, 19, 9, -1, -1), INVALID);
        Wrappers.refused("addPallet(201, 201, 251, 5001, 10000)", none, y -> y.addPallet(201, 201, 251, 5001, 10000),
            INVALID);
    }

    private static void addOrdinary(PalletWrapper x, int pallets) {
        for (int i = 0; i < pallets; i++) {
            add(x, ORDINARY);
        }
    }

    private static void eightPallets() {
        Checks.sentence(0, "At most 8 pallets wait.");
        for (int pallets = 0; pallets <= 7; pallets++) {
            PalletWrapper x = new PalletWrapper();
            addOrdinary(x, pallets);
            Checks.sentence(5, "Adds a pallet.");
            Checks.sentence(5, "Returns the number of the pallet");
            Checks.due("addPallet(..)", add(x, ORDINARY), pallets);
            Checks.due("count(1)", x.count(1), pallets + 1);
        }
        Checks.sentence(5, "LIMIT_REACHED if 8 pallets wait");
        Consumer<PalletWrapper> eight = x -> addOrdinary(x, 8);
        Wrappers.refused("addPallet(..) as the 9th", eight, x -> add(x, ORDINARY), LIMIT);
        Wrappers.refused("addPallet(..) as the 9th, due at 0", eight, x -> x.addPallet(20, 20, 10, 0, 0), LIMIT);
        Wrappers.refused("addPallet(..) as the 9th, due last", eight, x -> x.addPallet(200, 200, 250, 5000, 9999), LIMIT);
    }

    private static void roomForPallets() {
        Checks.sentence(5, "LIMIT_REACHED if 8 pallets wait");
        PalletWrapper x = new PalletWrapper();
        addOrdinary(x, 8);
        Checks.due("drop(3)", x.drop(3), 7);
        Checks.due("addPallet(..) after drop(3)", add(x, ORDINARY), 8);
        Checks.due("addPallet(..) as the 9th", add(x, ORDINARY), LIMIT);
        x.wrap();
        Checks.due("addPallet(..) after wrap()", add(x, ORDINARY), 9);
        Checks.due("addPallet(..) as the 9th", add(x, ORDINARY), LIMIT);
        x.undo();
        Checks.due("addPallet(..) after undo()", add(x, ORDINARY), 9);
        x.undo();
        x.undo();
        Checks.due("addPallet(..) after undo() of wrap()", add(x, ORDINARY), LIMIT);
    }

    private static void numbers() {
        Checks.sentence(0, "A pallet has a number (0 for the first one that is added, and so on)");
        PalletWrapper x = new PalletWrapper();
        for (int number = 0; number < 100; number++) {
            Checks.due("addPallet(..)", add(x, ORDINARY), number);
            Checks.due("waiting(0, 0)", x.waiting(0, 0), number);
            if (number % 2 == 0) {
                Checks.due("drop(" + number + ")", x.drop(number), 0);
            } else {
                Checks.due("wrap()", x.wrap(), 0);
                Checks.due("done(0, 0)", x.done(0, 0), number);
            }
        }
    }

    private static void numbersThatAreNotTaken() {
        Checks.sentence(0, "A call that returns an error changes nothing.");
        PalletWrapper x = new PalletWrapper();
        Checks.due("addPallet(..) with a wrong width", add(x, ordinaryBut(0, 19)), INVALID);
        Checks.due("addPallet(..) after that", add(x, ORDINARY), 0);
        Checks.due("addPallet(..) with a wrong due time", add(x, ordinaryBut(4, 10000)), INVALID);
        addOrdinary(x, 7);
        Checks.due("addPallet(..) as the 9th", add(x, ORDINARY), LIMIT);
        x.drop(0);
        Checks.due("addPallet(..) after that", add(x, ORDINARY), 8);
        Checks.sentence(0, "each change records everything before it but the text");
        x.undo();
        Checks.due("addPallet(..) after undo()", add(x, ORDINARY), 8);
        x.drop(8);
        Checks.due("addPallet(..) after drop(8)", add(x, ORDINARY), 9);
    }

    private static void zones() {
        Checks.sentence(0, "It has height / 10 zones, rounded up; zone 0 is the lowest one");
        int[][] rows = {{10, 1}, {11, 2}, {19, 2}, {20, 2}, {21, 3}, {49, 5}, {50, 5}, {51, 6}, {99, 10}, {100, 10},
            {101, 11}, {239, 24}, {240, 24}, {241, 25}, {249, 25}, {250, 25}};
        for (int[] row : rows) {
            PalletWrapper x = new PalletWrapper();
            x.addPallet(30, 30, row[0], 100, 0);
            Checks.due("planned of the last zone, height " + row[0], x.planned(row[1] - 1), 0);
            Checks.due("planned behind the last zone, height " + row[0], x.planned(row[1]), NOT_FOUND);
            x.wrap();
            Checks.due("done(0, 12), height " + row[0], x.done(0, 12), row[1]);
            Checks.due("zone of the last one, height " + row[0], x.zone(0, row[1] - 1, 0), 0);
            Checks.due("zone behind the last one, height " + row[0], x.zone(0, row[1], 0), NOT_FOUND);
            Checks.due("force behind the last one, height " + row[0], x.zone(0, row[1], 1), NOT_FOUND);
        }
    }

    private static void dropped() {
        Checks.sentence(6, "Takes a waiting pallet away.");
        Checks.sentence(6, "`pallet`: its number");
        for (int pallets = 1; pallets <= 8; pallets++) {
            for (int number = 0; number < pallets; number++) {
                PalletWrapper x = new PalletWrapper();
                addOrdinary(x, pallets);
                Checks.sentence(6, "Returns how many pallets wait then");
                Checks.due("drop(" + number + ") of " + pallets, x.drop(number), pallets - 1);
                Checks.due("count(1)", x.count(1), pallets - 1);
                for (int index = 0; index < pallets - 1; index++) {
                    Checks.due("waiting(" + index + ", 0)", x.waiting(index, 0), index < number ? index : index + 1);
                }
                Checks.due("waiting(" + (pallets - 1) + ", 0)", x.waiting(pallets - 1, 0), NOT_FOUND);
                Checks.due("drop(" + number + ") again", x.drop(number), NOT_FOUND);
                Checks.due("count(2)", x.count(2), 0);
            }
        }
    }

    private static void notDropped() {
        Checks.sentence(6, "INVALID_ARGUMENT if pallet is negative");
        Wrappers.refusesEach("drop", Wrappers::some, PalletWrapper::drop, INVALID, -1, -2, -4, -65536,
            Integer.MIN_VALUE);
        Wrappers.refusesEach("drop", Wrappers::nothing, PalletWrapper::drop, INVALID, -1, Integer.MIN_VALUE);
        Checks.sentence(6, "NOT_FOUND if no such pallet waits");
        // 0 and 2 are done, 1 and 3 wait.
        Wrappers.refusesEach("drop", Wrappers::some, PalletWrapper::drop, NOT_FOUND, 0, 2, 4, 5, 65537,
            Integer.MAX_VALUE);
        Wrappers.refusesEach("drop", Wrappers::nothing, PalletWrapper::drop, NOT_FOUND, 0, 1, Integer.MAX_VALUE);
        Wrappers.refused("drop(8) of eight", x -> addOrdinary(x, 8), x -> x.drop(8), NOT_FOUND);
        PalletWrapper given = Wrappers.withProgram("stay 1");
        add(given, ORDINARY);
        Checks.due("wrap() without film", given.wrap(), 1);
        Checks.due("drop(0) of one that is given up", given.drop(0), NOT_FOUND);
    }

    private static void orderIs(int[] dues, int... due) {
        PalletWrapper x = new PalletWrapper();
        for (int d : dues) {
            x.addPallet(30, 40, 50, 60, d);
        }
        for (int index = 0; index < due.length; index++) {
            Checks.due("waiting(" + index + ", 0)", x.waiting(index, 0), due[index]);
            Checks.due("waiting(" + index + ", 5)", x.waiting(index, 5), dues[due[index]]);
        }
        for (int number : due) {
            Checks.due("waiting(0, 0)", x.waiting(0, 0), number);
            x.wrap();
            Checks.due("done(0, 0)", x.done(0, 0), number);
        }
    }

    private static void order() {
        Checks.sentence(0, "The next pallet is the one with the least due time, of several the one with the least number.");
        Checks.sentence(7, "Returns a waiting pallet, in the order in which they would become the next one.");
        orderIs(new int[] {5, 5}, 0, 1);
        orderIs(new int[] {5, 4}, 1, 0);
        orderIs(new int[] {4, 5}, 0, 1);
        orderIs(new int[] {9999, 0}, 1, 0);
        orderIs(new int[] {0, 9999, 0, 9999}, 0, 2, 1, 3);
        orderIs(new int[] {7, 7, 7, 7, 7, 7, 7, 7}, 0, 1, 2, 3, 4, 5, 6, 7);
        orderIs(new int[] {8, 7, 6, 5, 4, 3, 2, 1}, 7, 6, 5, 4, 3, 2, 1, 0);
        orderIs(new int[] {1, 2, 3, 4, 5, 6, 7, 8}, 0, 1, 2, 3, 4, 5, 6, 7);
        orderIs(new int[] {3, 1, 3, 2, 1, 2, 3, 1}, 1, 4, 7, 3, 5, 0, 2, 6);
        // As numbers: 10 is not before 9, and 1000 is not before 999.
        orderIs(new int[] {1000, 999, 10, 9}, 3, 2, 1, 0);
    }

    private static void orderAfterRemovals() {
        Checks.sentence(0, "The next pallet is the one with the least due time, of several the one with the least number.");
        PalletWrapper x = new PalletWrapper();
        int[] dues = {5, 3, 5, 3, 5, 3};
        for (int due : dues) {
            x.addPallet(30, 40, 50, 60, due);
        }
        x.drop(3);
        x.drop(0);
        x.addPallet(30, 40, 50, 60, 3);
        x.addPallet(30, 40, 50, 60, 5);
        int[] order = {1, 5, 6, 2, 4, 7};
        for (int index = 0; index < order.length; index++) {
            Checks.due("waiting(" + index + ", 0)", x.waiting(index, 0), order[index]);
        }
        x.undo();
        x.undo();
        x.undo();
        int[] before = {1, 5, 0, 2, 4};
        for (int index = 0; index < before.length; index++) {
            Checks.due("waiting(" + index + ", 0) after undo()", x.waiting(index, 0), before[index]);
        }
        Checks.due("waiting(5, 0) after undo()", x.waiting(5, 0), NOT_FOUND);
    }

    private static void whichOne() {
        Checks.sentence(7, "NOT_FOUND if there are not so many");
        for (int pallets = 0; pallets <= 8; pallets++) {
            int waiting = pallets;
            Consumer<PalletWrapper> some = x -> addOrdinary(x, waiting);
            Wrappers.refusesEach("waiting(index, 0) of " + pallets, some, (x, index) -> x.waiting(index, 0), NOT_FOUND,
                pallets, pallets + 1, 8, 65536, Integer.MAX_VALUE);
            if (pallets > 0) {
                Wrappers.changesNothing("waiting of the last one", some, x -> x.waiting(waiting - 1, 0), pallets - 1);
            }
        }
        Checks.sentence(7, "INVALID_ARGUMENT if index is negative or what is out of range");
        Wrappers.refusesEach("waiting(index, 0)", Wrappers::some, (x, index) -> x.waiting(index, 0), INVALID,
            -1, -2, -65536, Integer.MIN_VALUE);
        Wrappers.refused("waiting(-1, 6)", Wrappers::some, x -> x.waiting(-1, 6), INVALID);
        Wrappers.refused("waiting(-1, 0) of none", Wrappers::nothing, x -> x.waiting(-1, 0), INVALID);
    }

    private static void whichProperty() {
        Checks.sentence(7, "`what`: 0: its number; 1: its width; 2: its depth; 3: its height; 4: its corner limit; "
            + "5: its due time");
        Checks.sentence(7, "`index`: 0 for the next pallet, and so on");
        int[][] due = {{1, 50, 50, 70, 150, 6}, {3, 70, 60, 110, 900, 6}};
        for (int index = 0; index <= 1; index++) {
            int asked = index;
            for (int what = 0; what <= 5; what++) {
                int property = what;
                Checks.sentence(7, "Returns the property");
                Wrappers.changesNothing("waiting(" + index + ", " + what + ")", Wrappers::some,
                    x -> x.waiting(asked, property), due[index][what]);
            }
        }
        Checks.sentence(7, "INVALID_ARGUMENT if index is negative or what is out of range");
        for (int index : new int[] {0, 1, 2, 8}) {
            Wrappers.refusesEach("waiting(" + index + ", what)", Wrappers::some, (x, what) -> x.waiting(index, what),
                INVALID, Wrappers.outside(0, 5));
        }
        Wrappers.refused("waiting(0, 6) of none", Wrappers::nothing, x -> x.waiting(0, 6), INVALID);
        Wrappers.refused("waiting(0, -1) of none", Wrappers::nothing, x -> x.waiting(0, -1), INVALID);
    }
}
