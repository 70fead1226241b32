import java.util.function.Consumer;

/** Promises 19 to 23: what would happen, what is done, and the sums, on both sides of each boundary. */
final class DoneEdgesTest {
    private static final int INVALID = PalletWrapper.INVALID_ARGUMENT;
    private static final int IMPOSSIBLE = PalletWrapper.NOT_POSSIBLE;
    private static final int NOT_FOUND = PalletWrapper.NOT_FOUND;

    private DoneEdgesTest() {
    }

    static void run() {
        ifWrapTells();
        ifWrapRefused();
        ifWrapAsWrap();
        leastAndGreatest();
        keptPallets();
        keptAfterUndo();
        doneTells();
        doneRefused();
        weightOnAPallet();
        zoneTells();
        zoneRefused();
        zonesOfOldPallets();
        totals();
        totalRefused();
        weights();
        allIsRestored();
        nothingIsLeftOver();
    }

    /**
     * Two pallets are done. The first one breaks at 50, 110 and 145, and bears 59: turns by 56, 2 and 1, and two that
     * are skipped; the roll is drawn up to 475. The second one needs 400: tails of 10 and 399, a break at 100, tails of
     * 370, 100 and 100; it is given up. So all sums are different.
     */
    private static void allDifferent(PalletWrapper x) {
        Wrappers.program(x, "stay 5");
        int[] lengths = {485, 399, 500, 100, 100};
        for (int i = 0; i < lengths.length; i++) {
            x.addRoll(lengths[i], 7 + i);
        }
        x.weaken(0, 50, 0);
        x.weaken(0, 110, 0);
        x.weaken(0, 145, 0);
        x.weaken(2, 100, 0);
        x.addPallet(50, 50, 30, 59, 0);
        x.addPallet(200, 200, 40, 5000, 0);
        x.wrap();
        x.wrap();
    }

    private static void allDifferentIs(PalletWrapper x, String name) {
        int[] totals = {1584, 300, 979, 185, 120, 4, 5, 3, 2, 1};
        for (int what = 0; what <= 9; what++) {
            Checks.due("total(" + what + ") " + name, x.total(what), totals[what]);
        }
        int[] latest = {1, 1, 0, 0, 0, 979 + 100 + 30, 1, 5, 0, 0, 40 + 300, 0, 4};
        int[] before = {0, 0, 3, 2, 300, 85 + 90, 3, 0, 3, 59, 15 + 120, 2100, 3};
        for (int what = 0; what <= 12; what++) {
            Checks.due("done(0, " + what + ") " + name, x.done(0, what), latest[what]);
            Checks.due("done(1, " + what + ") " + name, x.done(1, what), before[what]);
        }
        Checks.due("count(8) " + name, x.count(8), 135 + 340);
        Checks.due("weight() " + name, x.weight(), 2100);
    }

    private static void allIsRestored() {
        Checks.sentence(0, "each change records everything before it but the text");
        PalletWrapper x = new PalletWrapper();
        allDifferent(x);
        allDifferentIs(x, "at first");
        x.addRoll(10000, 1);
        allDifferentIs(x, "after addRoll");
        x.undo();
        allDifferentIs(x, "after undo()");
        x.addRoll(10000, 1);
        x.addPallet(50, 50, 30, 5000, 0);
        x.wrap();
        Checks.due("total(7)", x.total(7), 8);
        x.undo();
        allDifferentIs(x, "after undo() of wrap()");
        x.undo();
        x.undo();
        allDifferentIs(x, "after all that is undone");
    }

    /** What a pallet before it came to is not left over, neither where it is kept nor where it is tried. */
    private static void nothingIsLeftOver() {
        Checks.sentence(0, "The latest 6 that are done are kept.");
        PalletWrapper x = new PalletWrapper();
        for (int round = 0; round < 4; round++) {
            allDifferent(x);
        }
        x.clearText();
        x.load();
        for (int pallet = 0; pallet < 7; pallet++) {
            x.addPallet(50, 50, 40, 5000, 0);
            int[] due = {8 + pallet, 0, 0, 0, 0, 0, 0, 0, 0, 0, 0, 0, 4};
            for (int what = 0; what <= 9; what++) {
                Checks.due("ifWrap(" + what + ") without steps", x.ifWrap(what), 0);
            }
            x.wrap();
            for (int what = 0; what <= 12; what++) {
                Checks.due("done(0, " + what + ") without steps", x.done(0, what), due[what]);
            }
            Checks.due("zone(0, 2, 0) without steps", x.zone(0, 2, 0), 0);
            Checks.due("zone(0, 2, 1) without steps", x.zone(0, 2, 1), 0);
        }
        int[] totals = {4 * 1584, 4 * 300, 4 * 979, 4 * 185, 4 * 120, 4 * 4, 4 * 5, 4 * 3, 4 * 2, 4};
        for (int what = 0; what <= 9; what++) {
            Checks.due("total(" + what + ")", x.total(what), totals[what]);
        }
    }

    private static void none(PalletWrapper x) {
        Wrappers.some(x);
        x.drop(1);
        x.drop(3);
    }

    private static void ifWrapTells() {
        Checks.sentence(19, "Tells what the next pallet would come to; nothing changes.");
        Checks.sentence(19, "`what`: 0: what wrap would return; 1: the turns that are made; 2: the turns that are skipped; "
            + "3: the length on the pallet; 4: the length that is waste; 5: the breaks; 6: the changes; 7: the least number "
            + "of layers of a zone; 8: the greatest force of a zone; 9: the time that it takes");
        // Pallet 1, of 70, bears 150: at 0 twice by 56, then at 20 by 38 (a tension of 27). The roll is drawn up to 420,
        // and breaks at 600 in the second turn; 25 are threaded.
        int[] due = {0, 3, 0, 300, 80 + 25, 1, 0, 1, 150, 15 + 40};
        for (int what = 0; what <= 9; what++) {
            int asked = what;
            Checks.sentence(19, "Returns the number");
            Wrappers.changesNothing("ifWrap(" + what + ")", Wrappers::some, x -> x.ifWrap(asked), due[what]);
        }
        // A break, a change, want of film: none of it happens.
        Consumer<PalletWrapper> worse = x -> {
            Wrappers.some(x);
            x.drop(1);
            x.set(0, 500);
            x.weaken(0, 460, 0);
        };
        // Pallet 3 needs 130 a turn: a break at 460, all is threaded, a change; on roll 1 a break at 300 after two turns,
        // all is threaded, a change, and no roll is left.
        int[] given = {1, 2, 0, 260, 40 + 540 + 40 + 400, 2, 2, 0, 112, 14 + 80 + 120};
        for (int what = 0; what <= 9; what++) {
            int asked = what;
            Wrappers.changesNothing("ifWrap(" + what + ")", worse, x -> x.ifWrap(asked), given[what]);
        }
    }

    private static void ifWrapRefused() {
        Checks.sentence(19, "INVALID_ARGUMENT if what is out of range");
        Wrappers.refusesEach("ifWrap", Wrappers::some, PalletWrapper::ifWrap, INVALID, Wrappers.outside(0, 9));
        Checks.sentence(19, "NOT_POSSIBLE if no pallet waits");
        Wrappers.refusesEach("ifWrap", DoneEdgesTest::none, PalletWrapper::ifWrap, IMPOSSIBLE, 0, 1, 2, 3, 4, 5, 6, 7, 8, 9);
        Wrappers.refusesEach("ifWrap", Wrappers::nothing, PalletWrapper::ifWrap, IMPOSSIBLE, 0, 1, 8, 9);
        Checks.sentence(0, "If several errors apply to a call, INVALID_ARGUMENT is returned rather than NOT_POSSIBLE");
        Wrappers.refusesEach("ifWrap", DoneEdgesTest::none, PalletWrapper::ifWrap, INVALID, -1, 10);
        Wrappers.refusesEach("ifWrap", Wrappers::nothing, PalletWrapper::ifWrap, INVALID, -1, 10, Integer.MIN_VALUE,
            Integer.MAX_VALUE);
    }

    private static void ifWrapAsWrap() {
        Checks.sentence(20, "1 to 10: for this pallet what ifWrap tells for 0 to 9");
        PalletWrapper x = new PalletWrapper();
        Wrappers.some(x);
        for (int pallet = 0; pallet < 2; pallet++) {
            int[] told = new int[10];
            for (int what = 0; what <= 9; what++) {
                told[what] = x.ifWrap(what);
            }
            Checks.due("wrap()", x.wrap(), told[0]);
            for (int what = 0; what <= 9; what++) {
                Checks.due("done(0, " + (what + 1) + ")", x.done(0, what + 1), told[what]);
            }
        }
    }

    private static void leastAndGreatest() {
        Checks.sentence(19, "7: the least number of layers of a zone; 8: the greatest force of a zone");
        String[] programs = {"stay 1", "up 10", "up 10, stay 1, down 10", "stay 2, up 10", "tension 0, stay 3", "",
            "stay 1", "tension 10, stay 1, tension 20, up 100", "tension 20, stay 1, tension 10, up 100"};
        // The height, the least number of layers, and the greatest force.
        int[][] rows = {{60, 0, 56}, {60, 0, 56}, {60, 1, 168}, {60, 1, 168}, {50, 3, 0}, {50, 0, 0}, {10, 1, 56},
            {150, 0, 28}, {150, 0, 28}};
        for (int row = 0; row < rows.length; row++) {
            PalletWrapper x = Wrappers.withProgram(programs[row]);
            x.addRoll(5000, 1);
            x.addPallet(50, 50, rows[row][0], 5000, 0);
            Checks.due("ifWrap(7) by '" + programs[row] + "'", x.ifWrap(7), rows[row][1]);
            Checks.due("ifWrap(8) by '" + programs[row] + "'", x.ifWrap(8), rows[row][2]);
        }
        // A pallet before it that was higher does not matter.
        PalletWrapper x = Wrappers.withProgram("tension 199, stay 1");
        x.addRoll(5000, 1);
        x.addPallet(50, 50, 250, 5000, 0);
        x.addPallet(50, 50, 50, 5000, 0);
        x.addPallet(50, 50, 20, 100, 0);
        int[][] due = {{0, 280}, {1, 280}, {1, 100}};
        for (int[] pair : due) {
            Checks.due("ifWrap(7)", x.ifWrap(7), pair[0]);
            Checks.due("ifWrap(8)", x.ifWrap(8), pair[1]);
            x.wrap();
            Checks.due("done(0, 8)", x.done(0, 8), pair[0]);
            Checks.due("done(0, 9)", x.done(0, 9), pair[1]);
        }
    }

    /** So many pallets are done, of 1, 2, .. zones. */
    private static void wrapped(PalletWrapper x, int pallets) {
        Wrappers.program(x, "stay 1");
        x.addRoll(100000, 3);
        for (int number = 0; number < pallets; number++) {
            x.addPallet(20 + number, 30, 10 + 10 * number, 300 + number, 0);
            x.wrap();
        }
    }

    private static void keptPallets() {
        Checks.sentence(0, "The latest 6 that are done are kept.");
        for (int pallets = 0; pallets <= 14; pallets++) {
            PalletWrapper x = new PalletWrapper();
            wrapped(x, pallets);
            int kept = Math.min(6, pallets);
            Checks.sentence(20, "`index`: 0 for the latest one, and so on");
            for (int index = 0; index < kept; index++) {
                Checks.due("done(" + index + ", 0)", x.done(index, 0), pallets - 1 - index);
                Checks.due("done(" + index + ", 4)", x.done(index, 4), 50 + pallets - 1 - index);
                Checks.due("done(" + index + ", 12)", x.done(index, 12), pallets - index);
            }
            Checks.sentence(20, "NOT_FOUND if there are not so many");
            for (int index = kept; index <= kept + 2; index++) {
                Checks.due("done(" + index + ", 0)", x.done(index, 0), NOT_FOUND);
                Checks.due("done(" + index + ", 12)", x.done(index, 12), NOT_FOUND);
                Checks.due("zone(" + index + ", 0, 0)", x.zone(index, 0, 0), NOT_FOUND);
            }
            Checks.sentence(10, "2: pallets that are done");
            Checks.due("count(2)", x.count(2), pallets);
            Checks.sentence(0, "The latest 6 that are done are kept.");
        }
    }

    private static void keptAfterUndo() {
        Checks.sentence(0, "The latest 6 that are done are kept.");
        PalletWrapper x = new PalletWrapper();
        wrapped(x, 8);
        x.undo();
        for (int index = 0; index <= 5; index++) {
            Checks.due("done(" + index + ", 0) after undo()", x.done(index, 0), 6 - index);
            // Of 7, 6, .. zones the first five are covered.
            for (int zone = 0; zone <= 6 - index; zone++) {
                Checks.due("zone(" + index + ", " + zone + ", 0) after undo()", x.zone(index, zone, 0), zone < 5 ? 1 : 0);
                Checks.due("zone(" + index + ", " + zone + ", 1) after undo()", x.zone(index, zone, 1), zone < 5 ? 56 : 0);
            }
        }
        x.undo();
        x.undo();
        Checks.due("done(0, 0) after undo()", x.done(0, 0), 5);
        Checks.due("done(5, 0) after undo()", x.done(5, 0), 0);
        Checks.due("done(6, 0) after undo()", x.done(6, 0), NOT_FOUND);
        x.undo();
        Checks.due("done(0, 0) after undo(), as only the pallet was added", x.done(0, 0), 5);
        x.addPallet(40, 40, 20, 300, 0);
        x.wrap();
        Checks.due("done(0, 0)", x.done(0, 0), 6);
        Checks.due("done(0, 4)", x.done(0, 4), 80);
        Checks.due("done(5, 0)", x.done(5, 0), 1);
    }

    private static void doneTells() {
        Checks.sentence(20, "Returns a property of a kept pallet that is done.");
        Checks.sentence(20, "`what`: 0: its number; 1 to 10: for this pallet what ifWrap tells for 0 to 9; 11: the weight of "
            + "the film on it in milligrams; 12: the number of its zones");
        int[][] due = {{2, 0, 1, 1, 120, 0, 0, 0, 1, 56, 6, 600, 4}, {0, 0, 3, 0, 300, 0, 0, 0, 1, 168, 15, 1500, 7}};
        for (int index = 0; index <= 1; index++) {
            for (int what = 0; what <= 12; what++) {
                int asked = index;
                int property = what;
                Checks.sentence(20, "Returns the property");
                Wrappers.changesNothing("done(" + index + ", " + what + ")", Wrappers::some,
                    x -> x.done(asked, property), due[index][what]);
            }
        }
    }

    private static void doneRefused() {
        for (int what = 0; what <= 12; what++) {
            int property = what;
            Checks.sentence(20, "NOT_FOUND if there are not so many");
            Wrappers.refusesEach("done(index, " + what + ")", Wrappers::some, (x, index) -> x.done(index, property),
                NOT_FOUND, 2, 3, 5, 6, Integer.MAX_VALUE);
            Wrappers.refusesEach("done(index, " + what + ") of none", Wrappers::nothing,
                (x, index) -> x.done(index, property), NOT_FOUND, 0, 1, Integer.MAX_VALUE);
            Checks.sentence(20, "INVALID_ARGUMENT if index is negative or what is out of range");
            Wrappers.refusesEach("done(index, " + what + ")", Wrappers::some, (x, index) -> x.done(index, property),
                INVALID, -1, -2, -65536, Integer.MIN_VALUE);
        }
        for (int index : new int[] {0, 1, 2, 6, Integer.MAX_VALUE, -1}) {
            Wrappers.refusesEach("done(" + index + ", what)", Wrappers::some, (x, what) -> x.done(index, what), INVALID,
                Wrappers.outside(0, 12));
        }
        Wrappers.refused("done(0, 13) of none", Wrappers::nothing, x -> x.done(0, 13), INVALID);
        Wrappers.refused("done(-1, 0) of none", Wrappers::nothing, x -> x.done(-1, 0), INVALID);
    }

    private static void weightOnAPallet() {
        Checks.sentence(20, "11: the weight of the film on it in milligrams");
        PalletWrapper x = Wrappers.withProgram("stretch 0, tension 0, up 1");
        x.addRoll(100000, 50);
        x.addPallet(20, 200, 250, 5000, 0);
        // 200 turns of 440.
        Checks.due("wrap()", x.wrap(), 0);
        Checks.due("done(0, 4)", x.done(0, 4), 88000);
        Checks.due("done(0, 11)", x.done(0, 11), 4400000);
        Checks.due("weight()", x.weight(), 4400000);
        // Film of several rolls; waste is not on the pallet.
        PalletWrapper two = Wrappers.withProgram("stay 2");
        two.addRoll(150, 1);
        two.addRoll(230, 50);
        two.weaken(1, 99, 0);
        two.addPallet(50, 50, 30, 5000, 0);
        Checks.due("wrap()", two.wrap(), 0);
        Checks.due("done(0, 11) of two rolls", two.done(0, 11), 100 + 5000);
        Checks.due("done(0, 5) of two rolls", two.done(0, 5), 50 + 99 + 30);
        // The roll's weight alone, without any film, weighs nothing.
        PalletWrapper bare = Wrappers.withProgram("stay 2");
        bare.addRoll(150, 50);
        bare.addPallet(50, 50, 30, 0, 0);
        bare.wrap();
        Checks.due("done(0, 11) without film", bare.done(0, 11), 0);
    }

    private static void zoneTells() {
        Checks.sentence(21, "`what`: 0: its layers; 1: its force");
        Checks.sentence(21, "`index`: 0 for the latest pallet, and so on");
        Checks.sentence(21, "`zone`: number of the zone");
        // At 0, and skipped; at 0, 0 and 20.
        int[][] layers = {{1, 1, 1, 1}, {2, 2, 3, 3, 3, 1, 1}};
        for (int index = 0; index <= 1; index++) {
            for (int zone = 0; zone < layers[index].length; zone++) {
                int[] due = {layers[index][zone], 56 * layers[index][zone]};
                for (int what = 0; what <= 1; what++) {
                    int asked = index;
                    int number = zone;
                    int property = what;
                    Checks.sentence(21, "Returns the property");
                    Wrappers.changesNothing("zone(" + index + ", " + zone + ", " + what + ")", Wrappers::some,
                        x -> x.zone(asked, number, property), due[what]);
                }
            }
        }
    }

    private static void zoneRefused() {
        for (int what = 0; what <= 1; what++) {
            int property = what;
            Checks.sentence(21, "NOT_FOUND if there are not so many pallets or zones");
            Wrappers.refusesEach("zone(0, zone, " + what + ")", Wrappers::some, (x, zone) -> x.zone(0, zone, property),
                NOT_FOUND, 4, 5, 24, 25, 26, Integer.MAX_VALUE);
            Wrappers.refusesEach("zone(1, zone, " + what + ")", Wrappers::some, (x, zone) -> x.zone(1, zone, property),
                NOT_FOUND, 7, 8, 25, Integer.MAX_VALUE);
            Wrappers.refusesEach("zone(index, 0, " + what + ")", Wrappers::some, (x, index) -> x.zone(index, 0, property),
                NOT_FOUND, 2, 3, 5, 6, 7, Integer.MAX_VALUE);
            Wrappers.refusesEach("zone(index, 30, " + what + ")", Wrappers::some,
                (x, index) -> x.zone(index, 30, property), NOT_FOUND, 0, 1, 2, 6, Integer.MAX_VALUE);
            Wrappers.refused("zone(0, 0, " + what + ") of none", Wrappers::nothing, x -> x.zone(0, 0, property), NOT_FOUND);
            Checks.sentence(21, "INVALID_ARGUMENT if an argument is out of range (index or zone negative)");
            Wrappers.refusesEach("zone(0, zone, " + what + ")", Wrappers::some, (x, zone) -> x.zone(0, zone, property),
                INVALID, -1, -2, Integer.MIN_VALUE);
            Wrappers.refusesEach("zone(index, 0, " + what + ")", Wrappers::some, (x, index) -> x.zone(index, 0, property),
                INVALID, -1, -2, Integer.MIN_VALUE);
            Wrappers.refusesEach("zone(index, 30, " + what + ")", Wrappers::some,
                (x, index) -> x.zone(index, 30, property), INVALID, -1, Integer.MIN_VALUE);
            Wrappers.refusesEach("zone(9, zone, " + what + ")", Wrappers::some, (x, zone) -> x.zone(9, zone, property),
                INVALID, -1, Integer.MIN_VALUE);
            Wrappers.refused("zone(-1, 0, " + what + ") of none", Wrappers::nothing, x -> x.zone(-1, 0, property), INVALID);
            Wrappers.refused("zone(0, -1, " + what + ") of none", Wrappers::nothing, x -> x.zone(0, -1, property), INVALID);
        }
        for (int place : new int[] {0, 30, Integer.MAX_VALUE}) {
            Wrappers.refusesEach("zone(0, " + place + ", what)", Wrappers::some, (x, what) -> x.zone(0, place, what),
                INVALID, Wrappers.outside(0, 1));
            Wrappers.refusesEach("zone(" + place + ", 0, what)", Wrappers::some, (x, what) -> x.zone(place, 0, what),
                INVALID, Wrappers.outside(0, 1));
        }
        Wrappers.refused("zone(0, 0, 2) of none", Wrappers::nothing, x -> x.zone(0, 0, 2), INVALID);
        Wrappers.refused("zone(0, 0, -1) of none", Wrappers::nothing, x -> x.zone(0, 0, -1), INVALID);
    }

    private static void zonesOfOldPallets() {
        Checks.sentence(21, "Returns a property of a zone of a kept pallet that is done.");
        PalletWrapper x = Wrappers.withProgram("stay 1, tension 10, up 100");
        x.addRoll(100000, 1);
        int[] heights = {250, 10, 130, 50, 60, 240, 100, 20};
        for (int height : heights) {
            x.addPallet(50, 50, height, 5000, 0);
            x.wrap();
        }
        for (int index = 0; index < 6; index++) {
            int height = heights[7 - index];
            int last = height / 10 - 1;
            // A turn at 0, others above it up to the top, if there is something to be covered there.
            Checks.due("zone(" + index + ", 0, 1)", x.zone(index, 0, 1), 56);
            Checks.due("zone(" + index + ", 0, 0)", x.zone(index, 0, 0), 1);
            Checks.due("zone(" + index + ", last, 1)", x.zone(index, last, 1), height <= 50 ? 56 : 14);
            Checks.due("zone(" + index + ", behind, 1)", x.zone(index, last + 1, 1), NOT_FOUND);
        }
        Checks.due("zone(6, 0, 0)", x.zone(6, 0, 0), NOT_FOUND);
        // The pallet of 60 is covered from 10 on by the second turn, too.
        Checks.due("zone(3, 1, 0)", x.zone(3, 1, 0), 2);
        Checks.due("zone(3, 1, 1)", x.zone(3, 1, 1), 56 + 14);
        // That of 240 has turns at 0, 100 and 190: 5 to 9 and 15 to 18 are bare.
        int[] bare = {5, 9, 15, 18};
        int[] covered = {4, 10, 14, 19, 23};
        for (int zone : bare) {
            Checks.due("zone(2, " + zone + ", 0)", x.zone(2, zone, 0), 0);
        }
        for (int zone : covered) {
            Checks.due("zone(2, " + zone + ", 0)", x.zone(2, zone, 0), 1);
        }
    }

    private static void totals() {
        Checks.sentence(22, "Returns a sum over everything since the beginning.");
        Checks.sentence(22, "`what`: 0: the length that left rolls, waste included; 1: the length on pallets; 2: tails; "
            + "3: pieces; 4: threading; 5: breaks; 6: changes; 7: turns made; 8: turns skipped; 9: pallets given up");
        int[] initial = {0, 0, 0, 0, 0, 0, 0, 0, 0, 0};
        for (int what = 0; what <= 9; what++) {
            int asked = what;
            Checks.sentence(22, "Returns the sum");
            Wrappers.changesNothing("total(" + what + ") of a new one", Wrappers::nothing, x -> x.total(asked),
                initial[what]);
        }
        Consumer<PalletWrapper> many = x -> {
            Wrappers.program(x, "stay 2");
            x.addRoll(450, 1);
            x.weaken(0, 250, 10);
            x.addRoll(170, 1);
            x.addPallet(50, 50, 30, 5000, 0);
            x.addPallet(50, 50, 30, 60, 1);
            x.addPallet(50, 50, 30, 0, 2);
            x.addPallet(50, 50, 30, 5000, 3);
            for (int pallet = 0; pallet < 4; pallet++) {
                x.wrap();
            }
        };
        // 200; then a break at 250, 30 threaded, 100 up to 380, a tail of 70, and 100 of the next roll; then two turns
        // are skipped; then there is a tail of 70, and the last pallet is given up.
        int[] due = {620, 400, 140, 50, 30, 1, 2, 4, 2, 1};
        for (int what = 0; what <= 9; what++) {
            int asked = what;
            Wrappers.changesNothing("total(" + what + ")", many, x -> x.total(asked), due[what]);
        }
        // More than the 6 pallets that are kept.
        Checks.sentence(22, "Returns a sum over everything since the beginning.");
        PalletWrapper x = new PalletWrapper();
        wrapped(x, 9);
        int length = 50 + 51 + 52 + 53 + 54 + 55 + 56 + 57 + 58;
        int[] nine = {length, length, 0, 0, 0, 0, 0, 9, 0, 0};
        for (int what = 0; what <= 9; what++) {
            Checks.due("total(" + what + ") of nine", x.total(what), nine[what]);
        }
        Checks.due("weight() of nine", x.weight(), 3 * length);
        // A roll that is only added has not left anything.
        x.addRoll(100, 1);
        Checks.due("total(0) after addRoll", x.total(0), length);
    }

    private static void totalRefused() {
        Checks.sentence(22, "INVALID_ARGUMENT if what is out of range");
        Wrappers.refusesEach("total", Wrappers::some, PalletWrapper::total, INVALID, Wrappers.outside(0, 9));
        Wrappers.refusesEach("total", Wrappers::nothing, PalletWrapper::total, INVALID, -1, 10, Integer.MIN_VALUE,
            Integer.MAX_VALUE);
    }

    private static void weights() {
        Checks.sentence(23, "Returns the weight of the film on all pallets that are done, in milligrams.");
        Checks.sentence(23, "Returns the weight.");
        Checks.due("weight() of a new one", new PalletWrapper().weight(), 0);
        Wrappers.changesNothing("weight()", Wrappers::some, x -> (int) x.weight(), 1500 + 600);
        Wrappers.changesNothing("weight()", Wrappers::nothing, x -> (int) x.weight(), 0);
        // The most that 512 calls can put on pallets: six of the heaviest rolls for each of them, 800 a turn.
        PalletWrapper x = Wrappers.withProgram("stretch 0, tension 0, up 1, down 1, up 1, down 1");
        for (int pallet = 1; pallet <= 57; pallet++) {
            for (int roll = 0; roll < 6; roll++) {
                x.addRoll(100000, 50);
            }
            x.addPallet(200, 200, 250, 0, 0);
            x.wrap();
        }
        Checks.due("weight() of 57", x.weight(), 57L * 30000000);
        Checks.due("total(1) of 57", x.total(1), 57 * 600000);
        Checks.due("done(0, 11)", x.done(0, 11), 30000000);
    }
}
