import java.util.function.Consumer;

/** Promises 24 to 27. */
final class PlansTest {
    private static final int INVALID = PalletWrapper.INVALID_ARGUMENT;
    private static final int IMPOSSIBLE = PalletWrapper.NOT_POSSIBLE;
    private static final int NOT_FOUND = PalletWrapper.NOT_FOUND;

    private PlansTest() {
    }

    static void run() {
        planned();
        riseFor();
        tensionFor();
        supply();
        supplyUntilGivenUp();
    }

    private static void plannedIs(PalletWrapper x, int... due) {
        for (int zone = 0; zone < due.length; zone++) {
            Checks.due("planned(" + zone + ")", x.planned(zone), due[zone]);
        }
        Checks.due("planned(" + due.length + ")", x.planned(due.length), NOT_FOUND);
    }

    private static void planned() {
        Checks.promise(24);
        PalletWrapper x = Wrappers.withProgram("stay 2, up 15, tension 199, down 100");
        x.addPallet(50, 50, 72, 0, 5);
        // At 0, 0, 15, 22, 0: neither film nor a corner limit is needed.
        String before = Wrappers.seen(x);
        plannedIs(x, 3, 4, 5, 5, 5, 2, 2, 1);
        x.addPallet(50, 50, 30, 5000, 4);
        plannedIs(x, 2, 2, 2);
        x.undo();
        Checks.due("what is seen after planned", Wrappers.seen(x), before);
        Wrappers.program(x, "");
        plannedIs(x, 0, 0, 0, 0, 0, 0, 0, 0);
        Consumer<PalletWrapper> one = y -> y.addPallet(50, 50, 30, 5000, 4);
        Consumer<PalletWrapper> none = y -> y.addRoll(1000, 1);
        Wrappers.refused("planned(-1)", one, y -> y.planned(-1), INVALID);
        Wrappers.refused("planned(-1) without pallets", none, y -> y.planned(-1), INVALID);
        Wrappers.refused("planned(0) without pallets", none, y -> y.planned(0), IMPOSSIBLE);
        Wrappers.refused("planned(3)", one, y -> y.planned(3), NOT_FOUND);
        Wrappers.refused("planned(100)", one, y -> y.planned(100), NOT_FOUND);
    }

    private static void riseFor() {
        Checks.promise(25);
        PalletWrapper x = Wrappers.withProgram("stay 3, up 7");
        x.addPallet(50, 50, 120, 0, 0);
        String before = Wrappers.seen(x);
        // For one layer 0, 59 (zones 5 to 10) and 70 (zones 7 to 11) do; at 60 zone 5 (50 to 60) is bare.
        Checks.due("riseFor(1)", x.riseFor(1), 59);
        Checks.due("riseFor(2)", x.riseFor(2), 9);
        // At 0 and below 10: 0, 4, 8 for three; 0, 3, 6, 9 for four; by 1 all of 0 to 9.
        Checks.due("riseFor(3)", x.riseFor(3), 4);
        Checks.due("riseFor(4)", x.riseFor(4), 3);
        Checks.due("riseFor(5)", x.riseFor(5), 2);
        Checks.due("riseFor(6)", x.riseFor(6), 1);
        Checks.due("riseFor(10)", x.riseFor(10), 1);
        Checks.due("riseFor(11)", x.riseFor(11), NOT_FOUND);
        Checks.due("riseFor(50)", x.riseFor(50), NOT_FOUND);
        Checks.due("what is seen after riseFor", Wrappers.seen(x), before);
        x.drop(0);
        x.addPallet(50, 50, 50, 0, 0);
        Checks.due("riseFor(1) of a low one", x.riseFor(1), 100);
        Checks.due("riseFor(2) of a low one", x.riseFor(2), NOT_FOUND);
        x.addPallet(50, 50, 100, 0, 0);
        x.drop(1);
        Checks.due("riseFor(1) of 100", x.riseFor(1), 100);
        x.addPallet(50, 50, 110, 0, 0);
        x.drop(2);
        Checks.due("riseFor(1) of 110", x.riseFor(1), 59);
        Consumer<PalletWrapper> one = y -> y.addPallet(50, 50, 30, 5000, 4);
        Consumer<PalletWrapper> none = y -> y.addRoll(1000, 1);
        Wrappers.refused("riseFor(0)", one, y -> y.riseFor(0), INVALID);
        Wrappers.refused("riseFor(51)", one, y -> y.riseFor(51), INVALID);
        Wrappers.refused("riseFor(51) without pallets", none, y -> y.riseFor(51), INVALID);
        Wrappers.refused("riseFor(1) without pallets", none, y -> y.riseFor(1), IMPOSSIBLE);
        Wrappers.refused("riseFor(2)", one, y -> y.riseFor(2), NOT_FOUND);
    }

    private static void tensionFor() {
        Checks.promise(26);
        int[][] rows = {{300, 3, 71}, {300, 1, 199}, {280, 1, 199}, {279, 1, 198}, {0, 1, 0}, {0, 500, 0}, {1, 1, 1},
            {1, 2, 0}, {2, 1, 2}, {3, 1, 2}, {4, 1, 3}, {5000, 500, 7}, {4999, 500, 7}, {4499, 500, 6},
            {5000, 1, 199}, {5000, 17, 199}, {5000, 18, 197}, {99, 100, 0}, {100, 100, 1},
            {54, 1, 39}, {53, 1, 38}, {195, 1, 139}, {140, 1, 99}, {141, 1, 100}};
        for (int[] row : rows) {
            PalletWrapper x = new PalletWrapper();
            x.addPallet(50, 50, 30, row[0], 0);
            Checks.due("tensionFor(" + row[1] + ") for " + row[0], x.tensionFor(row[1]), row[2]);
        }
        Consumer<PalletWrapper> one = y -> y.addPallet(50, 50, 30, 5000, 4);
        Consumer<PalletWrapper> none = y -> y.addRoll(1000, 1);
        Wrappers.refused("tensionFor(0)", one, y -> y.tensionFor(0), INVALID);
        Wrappers.refused("tensionFor(501)", one, y -> y.tensionFor(501), INVALID);
        Wrappers.refused("tensionFor(0) without pallets", none, y -> y.tensionFor(0), INVALID);
        Wrappers.refused("tensionFor(1) without pallets", none, y -> y.tensionFor(1), IMPOSSIBLE);
    }

    private static void supply() {
        Checks.promise(27);
        PalletWrapper x = new PalletWrapper();
        Checks.due("supply() without pallets", x.supply(), 0);
        for (int number = 0; number < 8; number++) {
            x.addPallet(50, 50, 30, 5000, 10 - number);
        }
        Checks.due("supply() without steps", x.supply(), 8);
        Wrappers.program(x, "stay 2");
        Checks.due("supply() without film", x.supply(), 0);
        x.addRoll(599, 1);
        String before = Wrappers.seen(x);
        Checks.due("supply() of 599", x.supply(), 2);
        Checks.due("what is seen after supply()", Wrappers.seen(x), before);
        x.addRoll(700, 1);
        Checks.due("supply() of 599 and 700", x.supply(), 6);
        x.addRoll(300, 1);
        Checks.due("supply() of 599, 700 and 300", x.supply(), 7);
        x.undo();
        x.addRoll(400, 1);
        Checks.due("supply() of 599, 700 and 400", x.supply(), 8);
        x.wrap();
        Checks.due("supply() after wrap()", x.supply(), 7);
    }

    private static void supplyUntilGivenUp() {
        PalletWrapper x = Wrappers.withProgram("stay 1");
        x.addRoll(1000, 1);
        x.weaken(0, 150, 0);
        x.set(1, 0);
        x.addPallet(50, 50, 30, 5000, 1);
        x.addPallet(50, 50, 30, 5000, 2);
        x.addPallet(50, 50, 30, 5000, 3);
        Checks.due("supply() up to too many breaks", x.supply(), 1);
        x.set(1, 1);
        Checks.due("supply() with more patience", x.supply(), 3);
        Checks.due("roll(0, 2)", x.roll(0, 2), 0);
    }
}
