import java.util.List;
import java.util.function.Consumer;

/** Promises 1 to 10. */
final class RollsAndPalletsTest {
    private static final int INVALID = PalletWrapper.INVALID_ARGUMENT;
    private static final int IMPOSSIBLE = PalletWrapper.NOT_POSSIBLE;
    private static final int LIMIT = PalletWrapper.LIMIT_REACHED;
    private static final int NOT_FOUND = PalletWrapper.NOT_FOUND;

    private RollsAndPalletsTest() {
    }

    static void run() {
        newObject();
        addRoll();
        weaken();
        weakenErrors();
        roll();
        addPallet();
        drop();
        waiting();
        set();
        undo();
        undoOfEachChange();
        undoAnywhere();
        count();
    }

    private static void newObject() {
        Checks.promise(1);
        PalletWrapper x = new PalletWrapper();
        int[] counts = {0, 0, 0, 0, 30, 3, 0, 0, 0};
        for (int what = 0; what < counts.length; what++) {
            Checks.due("count(" + what + ")", x.count(what), counts[what]);
        }
        for (int what = 0; what <= 9; what++) {
            Checks.due("total(" + what + ")", x.total(what), 0);
        }
        Checks.due("weight()", x.weight(), 0);
        Checks.due("roll(0, 0)", x.roll(0, 0), INVALID);
        Checks.due("waiting(0, 0)", x.waiting(0, 0), NOT_FOUND);
        Checks.due("step(0, 0)", x.step(0, 0), NOT_FOUND);
        Checks.due("done(0, 0)", x.done(0, 0), NOT_FOUND);
        Checks.due("textAt(0)", x.textAt(0), NOT_FOUND);
        Checks.due("undo()", x.undo(), IMPOSSIBLE);
        Checks.due("wrap()", x.wrap(), IMPOSSIBLE);
        Checks.due("INVALID_ARGUMENT", INVALID, -1);
        Checks.due("NOT_POSSIBLE", IMPOSSIBLE, -2);
        Checks.due("LIMIT_REACHED", LIMIT, -3);
        Checks.due("NOT_FOUND", NOT_FOUND, -4);
        PalletWrapper other = new PalletWrapper();
        x.addRoll(100, 1);
        Checks.due("count(0) of another one", other.count(0), 0);
    }

    private static void addRoll() {
        Checks.promise(2);
        PalletWrapper x = new PalletWrapper();
        Checks.due("addRoll(100, 1)", x.addRoll(100, 1), 1);
        Checks.due("addRoll(100000, 50)", x.addRoll(100000, 50), 2);
        Checks.due("roll(0, 0)", x.roll(0, 0), 100);
        Checks.due("roll(1, 0)", x.roll(1, 0), 100000);
        Checks.due("roll(1, 1)", x.roll(1, 1), 50);
        for (int rolls = 3; rolls <= 6; rolls++) {
            Checks.due("addRoll(500, 7)", x.addRoll(500, 7), rolls);
        }
        Checks.due("count(6)", x.count(6), 4);
        Consumer<PalletWrapper> one = y -> y.addRoll(500, 7);
        Wrappers.refused("addRoll(99, 1)", one, y -> y.addRoll(99, 1), INVALID);
        Wrappers.refused("addRoll(100001, 1)", one, y -> y.addRoll(100001, 1), INVALID);
        Wrappers.refused("addRoll(100, 0)", one, y -> y.addRoll(100, 0), INVALID);
        Wrappers.refused("addRoll(100, 51)", one, y -> y.addRoll(100, 51), INVALID);
        Consumer<PalletWrapper> six = RollsAndPalletsTest::addSixRolls;
        Wrappers.refused("addRoll(500, 7)", six, y -> y.addRoll(500, 7), LIMIT);
        Wrappers.refused("addRoll(500, 0)", six, y -> y.addRoll(500, 0), INVALID);
    }

    private static void addSixRolls(PalletWrapper x) {
        for (int rolls = 0; rolls < 6; rolls++) {
            x.addRoll(500 + rolls, 7 + rolls);
        }
    }

    private static void weaken() {
        Checks.promise(3);
        PalletWrapper x = new PalletWrapper();
        x.addRoll(1000, 5);
        x.addRoll(200, 6);
        Checks.due("weaken(0, 999, 0)", x.weaken(0, 999, 0), 1);
        Checks.due("weaken(0, 1, 199)", x.weaken(0, 1, 199), 2);
        Checks.due("weaken(1, 199, 20)", x.weaken(1, 199, 20), 1);
        Checks.due("roll(0, 4)", x.roll(0, 4), 1);
        Checks.due("roll(0, 5)", x.roll(0, 5), 199);
        Checks.due("roll(1, 4)", x.roll(1, 4), 199);
        Checks.due("roll(1, 5)", x.roll(1, 5), 20);
        Checks.due("roll(0, 3)", x.roll(0, 3), 2);
        Checks.due("count(6)", x.count(6), 4);
        for (int weak = 3; weak <= 8; weak++) {
            Checks.due("weaken(0, " + weak + ", 9)", x.weaken(0, weak, 9), weak);
        }
        weakenInAnyOrder();
        weakenAfterUndo();
    }

    private static void weakenInAnyOrder() {
        PalletWrapper x = new PalletWrapper();
        x.addRoll(1000, 5);
        int[] places = {500, 300, 100, 200, 400, 600};
        for (int place : places) {
            x.weaken(0, place, place / 10);
        }
        Wrappers.program(x, "tension 0, stay 1");
        for (int place = 100; place <= 600; place += 100) {
            Checks.due("roll(0, 4)", x.roll(0, 4), place);
            Checks.due("roll(0, 5)", x.roll(0, 5), place / 10);
            x.addPallet(50, 50, 10, 0, 0);
            x.wrap();
        }
        Checks.due("roll(0, 4)", x.roll(0, 4), NOT_FOUND);
    }

    private static void weakenAfterUndo() {
        PalletWrapper x = new PalletWrapper();
        x.addRoll(1000, 5);
        x.undo();
        Checks.due("weaken(0, 5, 5) after undo()", x.weaken(0, 5, 5), INVALID);
        x.addRoll(1000, 5);
        x.addRoll(1000, 5);
        x.undo();
        Checks.due("weaken(1, 5, 5) after undo()", x.weaken(1, 5, 5), INVALID);
    }

    private static void weakenErrors() {
        Checks.promise(3);
        Consumer<PalletWrapper> some = y -> {
            y.addRoll(1000, 5);
            y.weaken(0, 400, 30);
        };
        Wrappers.refused("weaken(-1, 5, 5)", some, y -> y.weaken(-1, 5, 5), INVALID);
        Wrappers.refused("weaken(1, 5, 5)", some, y -> y.weaken(1, 5, 5), INVALID);
        Wrappers.refused("weaken(0, 0, 5)", some, y -> y.weaken(0, 0, 5), INVALID);
        Wrappers.refused("weaken(0, 1000, 5)", some, y -> y.weaken(0, 1000, 5), INVALID);
        Wrappers.refused("weaken(0, 5, -1)", some, y -> y.weaken(0, 5, -1), INVALID);
        Wrappers.refused("weaken(0, 5, 200)", some, y -> y.weaken(0, 5, 200), INVALID);
        Wrappers.refused("weaken(0, 400, 5)", some, y -> y.weaken(0, 400, 5), IMPOSSIBLE);
        Wrappers.refused("weaken(0, 400, 200)", some, y -> y.weaken(0, 400, 200), INVALID);
        Consumer<PalletWrapper> drawn = RollsAndPalletsTest::drawnRollWithEightWeakPlaces;
        Wrappers.refused("weaken(0, 500, 5)", drawn, y -> y.weaken(0, 500, 5), LIMIT);
        Wrappers.refused("weaken(0, 950, 5)", drawn, y -> y.weaken(0, 950, 5), IMPOSSIBLE);
        Wrappers.refused("weaken(0, 100, 5)", drawn, y -> y.weaken(0, 100, 5), IMPOSSIBLE);
        Wrappers.refused("weaken(0, 99, 5)", drawn, y -> y.weaken(0, 99, 5), IMPOSSIBLE);
        Wrappers.refused("weaken(0, 1000, 5)", drawn, y -> y.weaken(0, 1000, 5), INVALID);
        PalletWrapper x = new PalletWrapper();
        x.addRoll(1000, 5);
        wrapOneTurn(x);
        Checks.due("weaken(0, 100, 5)", x.weaken(0, 100, 5), IMPOSSIBLE);
        Checks.due("weaken(0, 101, 5)", x.weaken(0, 101, 5), 1);
    }

    /** One turn that draws 100 centimetres. */
    private static void wrapOneTurn(PalletWrapper x) {
        Wrappers.program(x, "stay 1");
        x.addPallet(50, 50, 10, 5000, 0);
        x.wrap();
    }

    private static void drawnRollWithEightWeakPlaces(PalletWrapper x) {
        x.addRoll(1000, 5);
        x.weaken(0, 50, 199);
        x.weaken(0, 60, 198);
        wrapOneTurn(x);
        for (int weak = 0; weak < 6; weak++) {
            x.weaken(0, 950 - weak, 10 + weak);
        }
    }

    private static void roll() {
        Checks.promise(4);
        PalletWrapper x = new PalletWrapper();
        drawnRollWithEightWeakPlaces(x);
        x.addRoll(300, 9);
        int[] first = {1000, 5, 100, 6, 945, 15};
        int[] second = {300, 9, 0, 0, NOT_FOUND, NOT_FOUND};
        for (int what = 0; what <= 5; what++) {
            Checks.due("roll(0, " + what + ")", x.roll(0, what), first[what]);
            Checks.due("roll(1, " + what + ")", x.roll(1, what), second[what]);
        }
        Checks.due("roll(-1, 0)", x.roll(-1, 0), INVALID);
        Checks.due("roll(2, 0)", x.roll(2, 0), INVALID);
        Checks.due("roll(2, 4)", x.roll(2, 4), INVALID);
        Checks.due("roll(0, -1)", x.roll(0, -1), INVALID);
        Checks.due("roll(0, 6)", x.roll(0, 6), INVALID);
        weakPlaceAtThePosition();
        rollInPlaceOfAnother();
    }

    private static void rollInPlaceOfAnother() {
        PalletWrapper x = new PalletWrapper();
        x.addRoll(150, 5);
        x.weaken(0, 140, 7);
        wrapOneTurn(x);
        x.addPallet(50, 50, 10, 5000, 0);
        x.wrap();
        Checks.due("roll(0, 0) of a roll that is gone", x.roll(0, 0), INVALID);
        x.addRoll(300, 6);
        int[] due = {300, 6, 0, 0, NOT_FOUND, NOT_FOUND};
        for (int what = 0; what <= 5; what++) {
            Checks.due("roll(0, " + what + ")", x.roll(0, what), due[what]);
        }
    }

    private static void weakPlaceAtThePosition() {
        PalletWrapper x = new PalletWrapper();
        x.addRoll(1000, 5);
        x.weaken(0, 100, 199);
        x.weaken(0, 101, 7);
        wrapOneTurn(x);
        Checks.due("roll(0, 2)", x.roll(0, 2), 100);
        Checks.due("roll(0, 3)", x.roll(0, 3), 1);
        Checks.due("roll(0, 4)", x.roll(0, 4), 101);
        Checks.due("roll(0, 5)", x.roll(0, 5), 7);
    }

    private static void addPallet() {
        Checks.promise(5);
        PalletWrapper x = new PalletWrapper();
        Checks.due("addPallet(20, 20, 10, 0, 0)", x.addPallet(20, 20, 10, 0, 0), 0);
        Checks.due("addPallet(200, 200, 250, 5000, 9999)", x.addPallet(200, 200, 250, 5000, 9999), 1);
        Checks.due("drop(1)", x.drop(1), 1);
        for (int number = 2; number <= 8; number++) {
            Checks.due("addPallet(30, 40, 50, 60, 7)", x.addPallet(30, 40, 50, 60, 7), number);
        }
        Checks.due("count(6)", x.count(6), 4);
        Consumer<PalletWrapper> one = y -> y.addPallet(30, 40, 50, 60, 70);
        int[][] wrong = {{19, 40, 50, 60, 70}, {201, 40, 50, 60, 70}, {30, 19, 50, 60, 70}, {30, 201, 50, 60, 70},
            {30, 40, 9, 60, 70}, {30, 40, 251, 60, 70}, {30, 40, 50, -1, 70}, {30, 40, 50, 5001, 70},
            {30, 40, 50, 60, -1}, {30, 40, 50, 60, 10000}};
        for (int[] w : wrong) {
            Wrappers.refused("addPallet" + java.util.Arrays.toString(w), one,
                y -> y.addPallet(w[0], w[1], w[2], w[3], w[4]), INVALID);
        }
        Consumer<PalletWrapper> eight = RollsAndPalletsTest::addEightPallets;
        Wrappers.refused("addPallet as a 9th one", eight, y -> y.addPallet(30, 40, 50, 60, 70), LIMIT);
        Wrappers.refused("addPallet(19, ..) as a 9th one", eight, y -> y.addPallet(19, 40, 50, 60, 70), INVALID);
    }

    private static void addEightPallets(PalletWrapper x) {
        int[] dues = {5, 3, 5, 9, 3, 0, 9999, 5};
        for (int number = 0; number < 8; number++) {
            x.addPallet(20 + number, 30 + number, 40 + number, 50 + number, dues[number]);
        }
    }

    private static void drop() {
        Checks.promise(6);
        PalletWrapper x = new PalletWrapper();
        addEightPallets(x);
        Checks.due("drop(0)", x.drop(0), 7);
        Checks.due("drop(0)", x.drop(0), NOT_FOUND);
        Checks.due("drop(6)", x.drop(6), 6);
        Checks.due("count(1)", x.count(1), 6);
        int[] order = {5, 1, 4, 2, 7, 3};
        for (int index = 0; index < order.length; index++) {
            Checks.due("waiting(" + index + ", 0)", x.waiting(index, 0), order[index]);
        }
        Checks.due("drop(5)", x.drop(5), 5);
        Checks.due("count(2)", x.count(2), 0);
        PalletWrapper wrapped = new PalletWrapper();
        wrapped.addPallet(30, 30, 30, 30, 30);
        wrapped.wrap();
        Checks.due("drop(0) of a pallet that is done", wrapped.drop(0), NOT_FOUND);
        Consumer<PalletWrapper> eight = RollsAndPalletsTest::addEightPallets;
        Wrappers.refused("drop(-1)", eight, y -> y.drop(-1), INVALID);
        Wrappers.refused("drop(8)", eight, y -> y.drop(8), NOT_FOUND);
    }

    private static void waiting() {
        Checks.promise(7);
        PalletWrapper x = new PalletWrapper();
        addEightPallets(x);
        int[] order = {5, 1, 4, 0, 2, 7, 3, 6};
        int[] dues = {0, 3, 3, 5, 5, 5, 9, 9999};
        for (int index = 0; index < 8; index++) {
            int number = order[index];
            int[] due = {number, 20 + number, 30 + number, 40 + number, 50 + number, dues[index]};
            for (int what = 0; what <= 5; what++) {
                Checks.due("waiting(" + index + ", " + what + ")", x.waiting(index, what), due[what]);
            }
        }
        Checks.due("waiting(8, 0)", x.waiting(8, 0), NOT_FOUND);
        Checks.due("waiting(8, 6)", x.waiting(8, 6), INVALID);
        Checks.due("waiting(-1, 0)", x.waiting(-1, 0), INVALID);
        Checks.due("waiting(0, -1)", x.waiting(0, -1), INVALID);
        Checks.due("waiting(0, 6)", x.waiting(0, 6), INVALID);
        x.wrap();
        Checks.due("waiting(0, 0) after wrap()", x.waiting(0, 0), 1);
    }

    private static void set() {
        Checks.promise(8);
        PalletWrapper x = new PalletWrapper();
        Checks.due("set(0, 0)", x.set(0, 0), 30);
        Checks.due("set(0, 500)", x.set(0, 500), 0);
        Checks.due("set(1, 0)", x.set(1, 0), 3);
        Checks.due("set(1, 20)", x.set(1, 20), 0);
        Checks.due("count(4)", x.count(4), 500);
        Checks.due("count(5)", x.count(5), 20);
        Checks.due("set(1, 20) once more", x.set(1, 20), 20);
        Checks.due("undo() as that is a change, too", x.undo(), 3);
        Consumer<PalletWrapper> some = y -> y.set(0, 100);
        Wrappers.refused("set(-1, 3)", some, y -> y.set(-1, 3), INVALID);
        Wrappers.refused("set(2, 3)", some, y -> y.set(2, 3), INVALID);
        Wrappers.refused("set(0, -1)", some, y -> y.set(0, -1), INVALID);
        Wrappers.refused("set(0, 501)", some, y -> y.set(0, 501), INVALID);
        Wrappers.refused("set(1, -1)", some, y -> y.set(1, -1), INVALID);
        Wrappers.refused("set(1, 21)", some, y -> y.set(1, 21), INVALID);
    }

    private static void undo() {
        Checks.promise(9);
        PalletWrapper x = new PalletWrapper();
        for (int rolls = 1; rolls <= 6; rolls++) {
            x.addRoll(100 * rolls, rolls);
        }
        for (int left = 3; left >= 0; left--) {
            Checks.due("undo()", x.undo(), left);
            Checks.due("count(0)", x.count(0), left + 2);
            Checks.due("count(6)", x.count(6), left);
        }
        Checks.due("undo() of nothing", x.undo(), IMPOSSIBLE);
        Checks.due("count(0)", x.count(0), 2);
        Checks.due("addRoll(700, 7)", x.addRoll(700, 7), 3);
        Checks.due("roll(2, 0)", x.roll(2, 0), 700);
        Checks.due("undo()", x.undo(), 0);
        Checks.due("roll(1, 0)", x.roll(1, 0), 200);
    }

    private static void undoOfEachChange() {
        Checks.promise(9);
        undone("addRoll", y -> y.addRoll(5000, 3));
        undone("weaken", y -> y.weaken(0, 650, 3));
        undone("addPallet", y -> y.addPallet(100, 90, 80, 70, 1));
        undone("drop", y -> y.drop(2));
        undone("set", y -> y.set(1, 9));
        undone("load", y -> y.load());
        undone("wrap", y -> y.wrap());
        PalletWrapper x = new PalletWrapper();
        busy(x);
        x.addPallet(100, 90, 80, 70, 1);
        x.undo();
        Checks.due("the number of a pallet after undo()", x.addPallet(100, 90, 80, 70, 1), 4);
        x.type('x');
        x.undo();
        Checks.due("textAt(12) after undo()", x.textAt(12), 'x');
    }

    private static void undone(String name, Consumer<PalletWrapper> change) {
        PalletWrapper x = new PalletWrapper();
        busy(x);
        x.undo();
        String before = Wrappers.seen(x);
        change.accept(x);
        Checks.due("count(6) after " + name, x.count(6), 4);
        Checks.due("undo() of " + name, x.undo(), 3);
        Checks.due("what is seen after undo() of " + name, Wrappers.seen(x), before);
    }

    /** Rolls, pallets, a program and pallets that are done; the text is another program. */
    private static void busy(PalletWrapper x) {
        x.addRoll(700, 20);
        x.weaken(0, 350, 5);
        x.addRoll(900, 30);
        Wrappers.program(x, "stay 2, up 20, down 30");
        x.addPallet(50, 50, 120, 300, 5);
        x.addPallet(60, 50, 60, 100, 7);
        x.addPallet(60, 60, 70, 900, 6);
        x.addPallet(60, 70, 90, 900, 6);
        x.wrap();
        Wrappers.retype(x, "stay 1, up 5");
        x.set(0, 20);
    }

    private static final List<Consumer<PalletWrapper>> CHANGES = List.of(
        y -> y.addRoll(450, 3), y -> y.weaken(0, 250, 10), y -> y.weaken(0, 240, 199), y -> y.addRoll(160, 7),
        y -> y.weaken(0, 245, 50), y -> y.weaken(1, 155, 6), y -> y.addRoll(3000, 11),
        y -> y.addPallet(50, 50, 60, 150, 3), y -> y.addPallet(20, 20, 10, 150, 9), y -> y.addPallet(30, 20, 20, 90, 1),
        y -> y.load(), y -> y.wrap(), y -> y.set(0, 9), y -> y.wrap(), y -> y.weaken(0, 1000, 1),
        y -> y.weaken(0, 500, 1), y -> y.set(1, 0), y -> y.addPallet(90, 200, 30, 4000, 7),
        y -> y.addPallet(70, 60, 50, 0, 7), y -> y.drop(1), y -> y.wrap(), y -> y.wrap(),
        y -> y.addPallet(200, 200, 40, 700, 7), y -> y.wrap(), y -> y.addPallet(200, 200, 30, 5000, 8), y -> y.wrap(),
        y -> y.addPallet(20, 200, 20, 5000, 8), y -> y.wrap(), y -> y.addPallet(60, 200, 20, 200, 8),
        y -> y.addRoll(100, 1), y -> y.wrap());

    /** Each change in a long row of them is undone; then all is as if it had not been made. */
    private static void undoAnywhere() {
        Checks.promise(9);
        for (int last = 0; last < CHANGES.size(); last++) {
            PalletWrapper x = new PalletWrapper();
            PalletWrapper other = new PalletWrapper();
            Wrappers.type(x, "stay 3, up 9, down 5");
            Wrappers.type(other, "stay 3, up 9, down 5");
            for (int i = 0; i < last; i++) {
                CHANGES.get(i).accept(x);
                CHANGES.get(i).accept(other);
            }
            CHANGES.get(last).accept(x);
            Checks.due("undo() of change " + last, x.undo(), Math.min(3, last));
            Checks.due("what is seen after undo() of change " + last, Wrappers.seen(x), Wrappers.seen(other));
        }
    }

    private static void count() {
        Checks.promise(10);
        PalletWrapper x = new PalletWrapper();
        busy(x);
        // The first pallet gets 2 + 4 + 3 turns of 5 each, with a break that costs 40 and a change that costs 60.
        int[] due = {1, 3, 1, 3, 20, 3, 4, 12, 145};
        for (int what = 0; what <= 8; what++) {
            Checks.due("count(" + what + ")", x.count(what), due[what]);
        }
        Checks.due("count(-1)", x.count(-1), INVALID);
        Checks.due("count(9)", x.count(9), INVALID);
        PalletWrapper many = new PalletWrapper();
        for (int pallets = 1; pallets <= 8; pallets++) {
            many.addPallet(20, 20, 10, 0, 0);
            many.wrap();
            Checks.due("count(2)", many.count(2), pallets);
        }
    }
}
