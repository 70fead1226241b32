import java.util.function.Consumer;

/** Promises 18 to 23. A pallet of 50 by 50 needs 100 centimetres and a time of 5 a turn at the initial stretch. */
final class WrappingTest {
    private static final int INVALID = PalletWrapper.INVALID_ARGUMENT;
    private static final int IMPOSSIBLE = PalletWrapper.NOT_POSSIBLE;
    private static final int NOT_FOUND = PalletWrapper.NOT_FOUND;

    private WrappingTest() {
    }

    static void run() {
        wrap();
        heights();
        lengths();
        tensions();
        rests();
        weakPlaces();
        threading();
        patience();
        ifWrap();
        done();
        keptPallets();
        zone();
        total();
        weight();
    }

    /** Checks what ifWrap tells for 0 to 9, then wrap, then the same of the pallet that is done. */
    private static void comesTo(PalletWrapper x, String name, int... due) {
        for (int what = 0; what < due.length; what++) {
            Checks.due(name + ": ifWrap(" + what + ")", x.ifWrap(what), due[what]);
        }
        Checks.due(name + ": wrap()", x.wrap(), due[0]);
        for (int what = 0; what < due.length; what++) {
            Checks.due(name + ": done(0, " + (what + 1) + ")", x.done(0, what + 1), due[what]);
        }
    }

    private static void layersAre(PalletWrapper x, String name, int... due) {
        for (int zone = 0; zone < due.length; zone++) {
            Checks.due(name + ": zone(0, " + zone + ", 0)", x.zone(0, zone, 0), due[zone]);
        }
        Checks.due(name + ": zone(0, " + due.length + ", 0)", x.zone(0, due.length, 0), NOT_FOUND);
    }

    private static void forcesAre(PalletWrapper x, String name, int... due) {
        for (int zone = 0; zone < due.length; zone++) {
            Checks.due(name + ": zone(0, " + zone + ", 1)", x.zone(0, zone, 1), due[zone]);
        }
    }

    private static void wrap() {
        Checks.promise(18);
        PalletWrapper empty = new PalletWrapper();
        empty.addPallet(50, 50, 100, 100, 9);
        empty.addPallet(50, 50, 100, 100, 8);
        comesTo(empty, "no steps, no film", 0, 0, 0, 0, 0, 0, 0, 0, 0, 0);
        Checks.due("done(0, 0)", empty.done(0, 0), 1);
        Checks.due("count(1)", empty.count(1), 1);
        Checks.due("count(6)", empty.count(6), 3);
        PalletWrapper x = Wrappers.withProgram("stay 3");
        x.addPallet(50, 50, 100, 5000, 0);
        comesTo(x, "no film", 1, 0, 0, 0, 0, 0, 0, 0, 0, 0);
        x.addPallet(50, 50, 40, 5000, 0);
        x.addRoll(5000, 2);
        comesTo(x, "three turns", 0, 3, 0, 300, 0, 0, 0, 3, 168, 15);
        Checks.due("roll(0, 2)", x.roll(0, 2), 300);
        Consumer<PalletWrapper> none = y -> y.addRoll(1000, 1);
        Wrappers.refused("wrap()", none, PalletWrapper::wrap, IMPOSSIBLE);
    }

    private static void heights() {
        Checks.promise(18);
        PalletWrapper x = Wrappers.withProgram("stay 2, up 25, stay 2, down 30, down 5, up 100, up 1");
        x.addRoll(100000, 2);
        x.addPallet(50, 50, 120, 5000, 0);
        // At 0, 0; 25, 50, 70; 70, 70; 40, 10, 0; none; 70; none.
        comesTo(x, "up and down", 0, 11, 0, 1100, 0, 0, 0, 3, 392, 55);
        layersAre(x, "up and down", 3, 4, 5, 5, 6, 4, 3, 7, 6, 5, 4, 4);
        x.addPallet(50, 50, 57, 5000, 0);
        // At 0, 0; 7; 7, 7; 0; none; 7; none.
        comesTo(x, "a low one", 0, 7, 0, 700, 0, 0, 0, 4, 392, 35);
        layersAre(x, "a low one", 7, 7, 7, 7, 7, 4);
        x.addPallet(50, 50, 50, 5000, 0);
        comesTo(x, "as high as the film", 0, 4, 0, 400, 0, 0, 0, 4, 224, 20);
        layersAre(x, "as high as the film", 4, 4, 4, 4, 4);
        x.addPallet(50, 50, 51, 5000, 0);
        // At 0, 0; 1; 1, 1; 0; none; 1; none.
        comesTo(x, "a little higher", 0, 7, 0, 700, 0, 0, 0, 4, 392, 35);
        layersAre(x, "a little higher", 7, 7, 7, 7, 7, 4);
        edgesOfZones();
        initialTensionAndStretch();
        otherTexts();
    }

    private static void initialTensionAndStretch() {
        PalletWrapper x = Wrappers.withProgram("stay 1, stretch 0, tension 100");
        x.addRoll(5000, 2);
        x.addPallet(200, 200, 30, 5000, 0);
        x.addPallet(200, 200, 30, 5000, 0);
        comesTo(x, "the first one", 0, 1, 0, 400, 0, 0, 0, 1, 56, 20);
        comesTo(x, "and the next one", 0, 1, 0, 400, 0, 0, 0, 1, 56, 20);
    }

    /** Neither a text that is only looked at nor a plan is the program. */
    private static void otherTexts() {
        PalletWrapper x = Wrappers.withProgram("stay 3");
        Wrappers.retype(x, "stay 1");
        x.fault();
        x.addRoll(5000, 2);
        x.addPallet(50, 50, 30, 5000, 0);
        x.addPallet(50, 50, 30, 5000, 0);
        comesTo(x, "after fault()", 0, 3, 0, 300, 0, 0, 0, 3, 168, 15);
        x.riseFor(1);
        comesTo(x, "after riseFor(1)", 0, 3, 0, 300, 0, 0, 0, 3, 168, 15);
    }

    private static void edgesOfZones() {
        PalletWrapper x = Wrappers.withProgram("up 10, stay 1");
        x.addRoll(100000, 2);
        x.addPallet(50, 50, 60, 5000, 0);
        comesTo(x, "at a zone's edge", 0, 2, 0, 200, 0, 0, 0, 0, 112, 10);
        layersAre(x, "at a zone's edge", 0, 2, 2, 2, 2, 2);
        Wrappers.program(x, "up 10, down 100, up 10");
        x.addPallet(50, 50, 60, 5000, 0);
        // At 10; 0, as there is nothing below; 10 again.
        comesTo(x, "down to the floor", 0, 3, 0, 300, 0, 0, 0, 1, 168, 15);
        layersAre(x, "down to the floor", 1, 3, 3, 3, 3, 2);
        Wrappers.program(x, "up 9, up 100");
        x.addPallet(50, 50, 70, 5000, 0);
        // At 9, 18, 20; then none.
        comesTo(x, "near a zone's edge", 0, 3, 0, 300, 0, 0, 0, 1, 168, 15);
        layersAre(x, "near a zone's edge", 1, 2, 3, 3, 3, 3, 2);
    }

    private static void lengths() {
        Checks.promise(18);
        int[][] rows = {{50, 50, 100, 100, 5}, {50, 50, 300, 50, 5}, {50, 50, 0, 200, 5}, {51, 50, 100, 101, 6},
            {50, 50, 50, 134, 5}, {20, 20, 300, 20, 2}, {200, 200, 0, 800, 20}, {21, 20, 300, 21, 3},
            {60, 60, 100, 120, 6}, {60, 61, 100, 121, 7}, {200, 200, 100, 400, 20}};
        for (int[] row : rows) {
            PalletWrapper x = Wrappers.withProgram("stretch " + row[2] + ", stay 1");
            x.addRoll(1000, 7);
            x.addPallet(row[0], row[1], 30, 5000, 0);
            String name = "stretch " + row[2] + " on " + row[0] + " by " + row[1];
            comesTo(x, name, 0, 1, 0, row[3], 0, 0, 0, 1, 56, row[4]);
            Checks.due(name + ": roll(0, 2)", x.roll(0, 2), row[3]);
            Checks.due(name + ": count(8)", x.count(8), row[4]);
        }
    }

    private static void tensions() {
        Checks.promise(18);
        PalletWrapper x = Wrappers.withProgram("stay 4");
        x.addRoll(100000, 2);
        x.addPallet(50, 50, 30, 100, 0);
        // 56 by a tension of 40, 43 by one of 31, 1 by one of 1; then skipped.
        comesTo(x, "a corner limit", 0, 3, 1, 300, 0, 0, 0, 3, 100, 15);
        x.addPallet(50, 50, 30, 0, 0);
        comesTo(x, "a corner limit of 0", 0, 0, 4, 0, 0, 0, 0, 0, 0, 0);
        Wrappers.program(x, "tension 199, stay 1, tension 0, stay 2, tension 1, stay 1");
        x.addPallet(50, 50, 30, 280, 0);
        // 280 by 199; a tension of 0 makes turns; one of 1 is skipped.
        comesTo(x, "a tension of 0", 0, 3, 1, 300, 0, 0, 0, 3, 280, 15);
        x.addPallet(50, 50, 30, 279, 0);
        comesTo(x, "one force less", 0, 3, 1, 300, 0, 0, 0, 3, 279, 15);
        Wrappers.program(x, "tension 100, stay 1, up 30, down 40");
        x.addPallet(50, 50, 100, 150, 0);
        // At 0 by 100: 141; at 30 by 7 (zones 3, 4): 9; at 50 by 100 (zones 5 to 9): 9 + 141 is the limit;
        // at 10 all is used in zones 3 and 4: skipped; at 0 skipped.
        comesTo(x, "by zones", 0, 3, 2, 300, 0, 0, 0, 1, 150, 15);
        forcesAre(x, "by zones", 141, 141, 141, 150, 150, 150, 150, 150, 141, 141);
        layersAre(x, "by zones", 1, 1, 1, 2, 2, 2, 2, 2, 1, 1);
        skippedWithoutFilm();
    }

    private static void skippedWithoutFilm() {
        PalletWrapper x = Wrappers.withProgram("stay 2, tension 0, stay 1");
        x.addPallet(50, 50, 30, 0, 0);
        comesTo(x, "skipped without film", 1, 0, 2, 0, 0, 0, 0, 0, 0, 0);
    }

    private static void rests() {
        Checks.promise(18);
        PalletWrapper x = Wrappers.withProgram("stay 3");
        x.addRoll(300, 2);
        x.addRoll(100, 3);
        x.addRoll(110, 4);
        x.addRoll(150, 5);
        x.addPallet(50, 50, 30, 5000, 0);
        comesTo(x, "the rest is enough", 0, 3, 0, 300, 0, 0, 0, 3, 168, 15);
        Checks.due("count(0)", x.count(0), 4);
        Checks.due("roll(0, 2)", x.roll(0, 2), 300);
        x.addPallet(50, 51, 30, 5000, 0);
        // The first roll has no rest and the second one too little; the third one does for one turn, then the fourth.
        comesTo(x, "changes", 1, 2, 0, 202, 100 + 9 + 49, 0, 4, 2, 112, 12 + 240);
        Checks.due("count(0)", x.count(0), 0);
        Checks.due("count(8)", x.count(8), 15 + 252);
        Checks.due("total(2)", x.total(2), 158);
        Checks.due("total(6)", x.total(6), 4);
    }

    private static void weakPlaces() {
        Checks.promise(18);
        int[][] rows = {{100, 39, 1}, {100, 40, 0}, {101, 0, 0}, {1, 39, 1}, {99, 0, 1}, {50, 199, 0}};
        for (int[] row : rows) {
            PalletWrapper x = Wrappers.withProgram("stay 1");
            x.addRoll(1000, 2);
            x.weaken(0, row[0], row[1]);
            x.addPallet(50, 50, 30, 5000, 0);
            String name = "weak at " + row[0] + " by " + row[1];
            if (row[2] == 0) {
                comesTo(x, name, 0, 1, 0, 100, 0, 0, 0, 1, 56, 5);
            } else {
                comesTo(x, name, 0, 1, 0, 100, row[0] + 30, 1, 0, 1, 56, 45);
            }
            Checks.due(name + ": total(3)", x.total(3), row[2] * row[0]);
            Checks.due(name + ": total(4)", x.total(4), row[2] * 30);
        }
        severalWeakPlaces();
        tensionOfTheTurn();
    }

    private static void severalWeakPlaces() {
        PalletWrapper x = Wrappers.withProgram("stay 2");
        x.addRoll(1000, 2);
        x.weaken(0, 70, 10);
        x.weaken(0, 20, 50);
        x.weaken(0, 60, 20);
        x.weaken(0, 90, 5);
        x.weaken(0, 190, 39);
        x.weaken(0, 390, 39);
        x.addPallet(50, 50, 30, 5000, 0);
        // Breaks at 60, threads past 70 up to 90; there it does not break. Breaks at 190, threads up to 220, goes on
        // at 320; breaks at 390, threads up to 420, goes on at 520.
        comesTo(x, "several weak places", 0, 2, 0, 200, 60 + 100 + 70 + 90, 3, 0, 2, 112, 130);
        Checks.due("roll(0, 2)", x.roll(0, 2), 520);
        Checks.due("roll(0, 3)", x.roll(0, 3), 0);
        Checks.due("total(3)", x.total(3), 230);
        Checks.due("total(4)", x.total(4), 90);
    }

    /** What tears is the tension of the turn, not the set one and not the force. */
    private static void tensionOfTheTurn() {
        PalletWrapper x = Wrappers.withProgram("tension 100, stay 2");
        x.addRoll(1000, 2);
        x.weaken(0, 150, 35);
        x.addPallet(50, 50, 30, 190, 0);
        comesTo(x, "the tension of the turn", 0, 2, 0, 200, 0, 0, 0, 2, 190, 10);
        x.undo();
        x.weaken(0, 160, 34);
        comesTo(x, "a weaker place", 0, 2, 0, 200, 90, 1, 0, 2, 190, 50);
        PalletWrapper loose = Wrappers.withProgram("tension 0, stay 1");
        loose.addRoll(1000, 2);
        loose.weaken(0, 10, 0);
        loose.addPallet(50, 50, 30, 190, 0);
        comesTo(loose, "no tension", 0, 1, 0, 100, 0, 0, 0, 1, 0, 5);
    }

    private static void threading() {
        Checks.promise(18);
        PalletWrapper x = Wrappers.withProgram("stay 1");
        x.addRoll(200, 2);
        x.addRoll(500, 3);
        x.weaken(0, 80, 0);
        x.weaken(0, 199, 0);
        x.weaken(1, 20, 100);
        x.set(0, 500);
        x.addPallet(50, 50, 30, 5000, 0);
        // A piece of 80, all 120 that are left are threaded; no tail; the second roll is not threaded.
        comesTo(x, "threading to the end", 0, 1, 0, 100, 200, 1, 1, 1, 56, 105);
        Checks.due("total(2)", x.total(2), 0);
        Checks.due("total(3)", x.total(3), 80);
        Checks.due("total(4)", x.total(4), 120);
        Checks.due("roll(0, 0)", x.roll(0, 0), 500);
        Checks.due("roll(0, 2)", x.roll(0, 2), 100);
        x.weaken(0, 150, 0);
        x.weaken(0, 151, 0);
        x.set(0, 0);
        x.addPallet(50, 50, 30, 5000, 0);
        comesTo(x, "no threading", 0, 1, 0, 100, 51, 2, 0, 1, 56, 85);
        Checks.due("total(4)", x.total(4), 120);
        weakPlaceInATail();
    }

    private static void weakPlaceInATail() {
        PalletWrapper x = Wrappers.withProgram("stay 1");
        x.addRoll(100, 2);
        x.weaken(0, 10, 0);
        x.addPallet(60, 60, 30, 5000, 0);
        comesTo(x, "a weak place in a tail", 1, 0, 0, 0, 100, 0, 1, 0, 0, 60);
    }

    private static void patience() {
        Checks.promise(18);
        for (int patience = 0; patience <= 4; patience++) {
            PalletWrapper x = Wrappers.withProgram("stay 1");
            x.addRoll(1000, 2);
            for (int weak = 1; weak <= 4; weak++) {
                x.weaken(0, 40 * weak, 0);
            }
            x.set(1, patience);
            x.addPallet(50, 50, 30, 5000, 0);
            int breaks = Math.min(4, patience + 1);
            int waste = 40 * breaks + 30;
            if (patience < 4) {
                comesTo(x, "patience " + patience, 2, 0, 0, 0, waste, breaks, 0, 0, 0, 40 * breaks);
            } else {
                comesTo(x, "patience " + patience, 0, 1, 0, 100, waste, 4, 0, 1, 56, 165);
            }
            Checks.due("roll(0, 2)", x.roll(0, 2), patience < 4 ? waste : waste + 100);
        }
        breaksOfEachPallet();
    }

    /** Breaks of an earlier pallet do not count; that patience ends is told although no film is left. */
    private static void breaksOfEachPallet() {
        PalletWrapper x = Wrappers.withProgram("stay 1");
        x.addRoll(400, 2);
        x.weaken(0, 10, 0);
        x.weaken(0, 200, 0);
        x.weaken(0, 399, 0);
        x.set(1, 1);
        x.addPallet(50, 50, 30, 5000, 0);
        x.addPallet(50, 50, 30, 5000, 0);
        x.addPallet(50, 50, 30, 5000, 0);
        comesTo(x, "the first break", 0, 1, 0, 100, 40, 1, 0, 1, 56, 45);
        comesTo(x, "the second break", 0, 1, 0, 100, 90, 1, 0, 1, 56, 45);
        comesTo(x, "the rest is too short", 1, 0, 0, 0, 70, 0, 1, 0, 0, 60);
        PalletWrapper last = Wrappers.withProgram("stay 1");
        last.addRoll(100, 2);
        last.weaken(0, 99, 0);
        last.set(1, 0);
        last.addPallet(50, 50, 30, 5000, 0);
        comesTo(last, "patience before film", 2, 0, 0, 0, 100, 1, 0, 0, 0, 40);
        Checks.due("count(0)", last.count(0), 1);
        Checks.due("roll(0, 2)", last.roll(0, 2), 100);
    }

    private static void ifWrap() {
        Checks.promise(19);
        PalletWrapper x = Wrappers.withProgram("stay 3, up 25");
        x.addRoll(450, 2);
        x.weaken(0, 250, 10);
        x.addRoll(150, 2);
        x.addPallet(50, 50, 100, 150, 3);
        x.addPallet(20, 20, 10, 150, 4);
        String before = Wrappers.seen(x);
        // At 0: 56, 56, and 38 by a tension of 27; at 25 nothing is free: skipped; at 50: 56.
        // The third turn breaks at 250 and ends at 380; the fourth one finds a tail of 70.
        int[] due = {0, 4, 1, 400, 50 + 30 + 70, 1, 1, 1, 150, 20 + 40 + 60};
        for (int what = 0; what <= 9; what++) {
            Checks.due("ifWrap(" + what + ")", x.ifWrap(what), due[what]);
        }
        Checks.due("what is seen after ifWrap", Wrappers.seen(x), before);
        for (int again = 0; again < 70; again++) {
            Checks.due("ifWrap(" + again % 10 + ") once more", x.ifWrap(again % 10), due[again % 10]);
        }
        Consumer<PalletWrapper> one = y -> y.addPallet(50, 50, 100, 150, 3);
        Wrappers.refused("ifWrap(-1)", one, y -> y.ifWrap(-1), INVALID);
        Wrappers.refused("ifWrap(10)", one, y -> y.ifWrap(10), INVALID);
        Wrappers.refused("ifWrap(0)", y -> y.addRoll(100, 1), y -> y.ifWrap(0), IMPOSSIBLE);
        Wrappers.refused("ifWrap(10) without pallets", y -> y.addRoll(100, 1), y -> y.ifWrap(10), INVALID);
    }

    private static void done() {
        Checks.promise(20);
        PalletWrapper x = Wrappers.withProgram("stay 3, up 25");
        x.addRoll(450, 3);
        x.weaken(0, 250, 10);
        x.addRoll(150, 7);
        x.addRoll(5000, 11);
        x.addPallet(20, 20, 10, 150, 9);
        x.addPallet(50, 50, 100, 150, 3);
        x.addPallet(50, 50, 11, 150, 9);
        Checks.due("done(0, 0)", x.done(0, 0), NOT_FOUND);
        int[] first = {1, 0, 4, 1, 400, 150, 1, 1, 1, 150, 120, 300 * 3 + 100 * 7, 10};
        int[] second = {0, 0, 3, 0, 120, 10, 0, 1, 3, 150, 66, 40 * 7 + 80 * 11, 1};
        int[] third = {2, 0, 3, 0, 300, 0, 0, 0, 3, 150, 15, 300 * 11, 2};
        Checks.due("wrap()", x.wrap(), 0);
        doneIs(x, 0, first);
        Checks.due("wrap()", x.wrap(), 0);
        Checks.due("wrap()", x.wrap(), 0);
        doneIs(x, 0, third);
        doneIs(x, 1, second);
        doneIs(x, 2, first);
        Checks.due("done(3, 0)", x.done(3, 0), NOT_FOUND);
        Checks.due("done(3, 13)", x.done(3, 13), INVALID);
        Checks.due("done(-1, 0)", x.done(-1, 0), INVALID);
        Checks.due("done(0, -1)", x.done(0, -1), INVALID);
        Checks.due("done(0, 13)", x.done(0, 13), INVALID);
    }

    private static void doneIs(PalletWrapper x, int index, int... due) {
        for (int what = 0; what < due.length; what++) {
            Checks.due("done(" + index + ", " + what + ")", x.done(index, what), due[what]);
        }
    }

    private static void keptPallets() {
        Checks.promise(20);
        PalletWrapper x = Wrappers.withProgram("stay 1");
        x.addRoll(10000, 3);
        for (int number = 0; number < 8; number++) {
            x.addPallet(20 + number, 30, 10 + 10 * number, 300, 0);
            x.wrap();
        }
        for (int index = 0; index < 6; index++) {
            Checks.due("done(" + index + ", 0)", x.done(index, 0), 7 - index);
            Checks.due("done(" + index + ", 4)", x.done(index, 4), 57 - index);
            Checks.due("done(" + index + ", 12)", x.done(index, 12), 8 - index);
        }
        Checks.due("done(6, 0)", x.done(6, 0), NOT_FOUND);
        Checks.due("zone(6, 0, 0)", x.zone(6, 0, 0), NOT_FOUND);
        x.undo();
        x.undo();
        Checks.due("done(0, 0) after undo()", x.done(0, 0), 6);
        Checks.due("done(5, 0) after undo()", x.done(5, 0), 1);
        Checks.due("done(5, 12) after undo()", x.done(5, 12), 2);
    }

    private static void zone() {
        Checks.promise(21);
        PalletWrapper x = Wrappers.withProgram("tension 50, stay 1, up 15");
        x.addRoll(10000, 3);
        x.addPallet(50, 50, 72, 130, 0);
        x.addPallet(50, 50, 250, 5000, 1);
        x.addPallet(50, 50, 10, 5000, 2);
        Checks.due("zone(0, 0, 0)", x.zone(0, 0, 0), NOT_FOUND);
        x.wrap();
        // At 0: 70. At 15 (zones 1 to 6): 60 by a tension of 43. At 22 (zones 2 to 7): skipped.
        layersAre(x, "the first one", 1, 2, 2, 2, 2, 1, 1, 0);
        forcesAre(x, "the first one", 70, 130, 130, 130, 130, 60, 60, 0);
        x.wrap();
        // From 15 to 195 by 15, and at 200 (zones 20 to 24).
        layersAre(x, "the second one", 1, 2, 2, 3, 4, 3, 4, 4, 3, 4, 4, 3, 4, 4, 3, 4, 4, 3, 4, 4, 4, 4, 3, 2, 2);
        x.wrap();
        layersAre(x, "the third one", 1);
        Checks.due("zone(2, 1, 1)", x.zone(2, 1, 1), 130);
        Checks.due("zone(2, 0, 0)", x.zone(2, 0, 0), 1);
        Checks.due("zone(1, 24, 0)", x.zone(1, 24, 0), 2);
        Checks.due("zone(1, 25, 0)", x.zone(1, 25, 0), NOT_FOUND);
        Checks.due("zone(3, 0, 0)", x.zone(3, 0, 0), NOT_FOUND);
        Checks.due("zone(3, 0, 2)", x.zone(3, 0, 2), INVALID);
        Checks.due("zone(-1, 0, 0)", x.zone(-1, 0, 0), INVALID);
        Checks.due("zone(0, -1, 0)", x.zone(0, -1, 0), INVALID);
        Checks.due("zone(3, -1, 0)", x.zone(3, -1, 0), INVALID);
        Checks.due("zone(0, 0, -1)", x.zone(0, 0, -1), INVALID);
        Checks.due("zone(0, 0, 2)", x.zone(0, 0, 2), INVALID);
        Checks.due("zone(0, 100, 2)", x.zone(0, 100, 2), INVALID);
    }

    private static void total() {
        Checks.promise(22);
        PalletWrapper x = Wrappers.withProgram("stay 3, up 25");
        x.addRoll(450, 3);
        x.weaken(0, 250, 10);
        x.addRoll(150, 7);
        x.addPallet(50, 50, 100, 150, 3);
        x.addPallet(50, 50, 10, 5000, 4);
        x.addPallet(50, 50, 10, 5000, 5);
        x.wrap();
        totalsAre(x, "after one pallet", 550, 400, 70, 50, 30, 1, 1, 4, 1, 0);
        x.wrap();
        totalsAre(x, "after the want of film", 600, 400, 120, 50, 30, 1, 2, 4, 1, 1);
        x.wrap();
        totalsAre(x, "after one more", 600, 400, 120, 50, 30, 1, 2, 4, 1, 2);
        x.undo();
        x.undo();
        totalsAre(x, "after undo()", 550, 400, 70, 50, 30, 1, 1, 4, 1, 0);
        Checks.due("count(8) after undo()", x.count(8), 120);
        Checks.due("total(-1)", x.total(-1), INVALID);
        Checks.due("total(10)", x.total(10), INVALID);
        givenUpWithFilmOnIt();
    }

    private static void givenUpWithFilmOnIt() {
        PalletWrapper x = Wrappers.withProgram("stay 2");
        x.addRoll(1000, 4);
        x.weaken(0, 150, 10);
        x.set(1, 0);
        x.addPallet(50, 50, 10, 5000, 4);
        comesTo(x, "given up with film on it", 2, 1, 0, 100, 80, 1, 0, 1, 56, 45);
        totalsAre(x, "given up with film on it", 180, 100, 0, 50, 30, 1, 0, 1, 0, 1);
        Checks.due("weight() of what stays on it", x.weight(), 400);
        Checks.due("done(0, 11)", x.done(0, 11), 400);
    }

    private static void totalsAre(PalletWrapper x, String name, int... due) {
        for (int what = 0; what < due.length; what++) {
            Checks.due(name + ": total(" + what + ")", x.total(what), due[what]);
        }
    }

    private static void weight() {
        Checks.promise(23);
        PalletWrapper x = Wrappers.withProgram("stretch 0, tension 0, stay 20, stay 20, stay 20, stay 20, stay 20, stay 20, stay 5");
        long due = 0;
        for (int round = 0; round < 60; round++) {
            x.addRoll(100000, 50);
            x.addPallet(200, 200, 250, 0, 0);
            Checks.due("wrap()", x.wrap(), 0);
            due += 125L * 800 * 50;
            Checks.due("weight()", x.weight(), due);
        }
        Checks.due("undo()", x.undo(), 3);
        Checks.due("weight() after undo()", x.weight(), due - 125L * 800 * 50);
        PalletWrapper two = Wrappers.withProgram("stay 2");
        two.addRoll(150, 3);
        two.addRoll(100, 50);
        two.addPallet(50, 50, 20, 5000, 0);
        two.wrap();
        Checks.due("weight() of two rolls", two.weight(), 100 * 3 + 100 * 50);
    }
}
