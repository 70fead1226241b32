import java.util.List;
import java.util.function.Consumer;

/**
 * What the document says of settings, changes and errors (and promises 1, 8, 9 and 10), sentence by sentence, on
 * both sides of each boundary.
 */
final class HistoryEdgesTest {
    private static final int INVALID = PalletWrapper.INVALID_ARGUMENT;
    private static final int IMPOSSIBLE = PalletWrapper.NOT_POSSIBLE;
    private static final int NOT_FOUND = PalletWrapper.NOT_FOUND;

    private HistoryEdgesTest() {
    }

    static void run() {
        newObject();
        constants();
        settings();
        settingsRefused();
        counts();
        countRefused();
        changes();
        noChanges();
        fourStates();
        fiveStates();
        wrapAround();
        toAndFro();
        restored();
        notTheText();
        undoRefused();
        lastCalls();
        otherObjects();
    }

    private static void newObject() {
        Checks.sentence(1, "Creates a wrapper without rolls, pallets and program.");
        PalletWrapper x = new PalletWrapper();
        int[] counts = {0, 0, 0, 0, 30, 3, 0, 0, 0};
        for (int what = 0; what <= 8; what++) {
            Checks.due("count(" + what + ")", x.count(what), counts[what]);
        }
        Checks.due("roll(0, 0)", x.roll(0, 0), INVALID);
        Checks.due("waiting(0, 0)", x.waiting(0, 0), NOT_FOUND);
        Checks.due("step(0, 0)", x.step(0, 0), NOT_FOUND);
        Checks.due("done(0, 0)", x.done(0, 0), NOT_FOUND);
        Checks.due("zone(0, 0, 0)", x.zone(0, 0, 0), NOT_FOUND);
        Checks.due("wrap()", x.wrap(), IMPOSSIBLE);
        Checks.due("ifWrap(0)", x.ifWrap(0), IMPOSSIBLE);
        Checks.due("fault()", x.fault(), NOT_FOUND);
        Checks.due("write()", x.write(), 0);
        Checks.due("clearText()", x.clearText(), 0);
        Checks.due("supply()", x.supply(), 0);
        Checks.due("undo()", x.undo(), IMPOSSIBLE);
    }

    private static void constants() {
        Checks.sentence(0, "`INVALID_ARGUMENT = -1`: An argument is out of its range.");
        Checks.due("INVALID_ARGUMENT", INVALID, -1);
        Checks.due("addRoll(99, 1)", new PalletWrapper().addRoll(99, 1), -1);
        Checks.sentence(0, "`NOT_POSSIBLE = -2`: The call is not possible in the present state.");
        Checks.due("NOT_POSSIBLE", IMPOSSIBLE, -2);
        Checks.due("wrap()", new PalletWrapper().wrap(), -2);
        Checks.sentence(0, "`LIMIT_REACHED = -3`: A fixed limit has been reached.");
        Checks.due("LIMIT_REACHED", PalletWrapper.LIMIT_REACHED, -3);
        PalletWrapper x = new PalletWrapper();
        for (int roll = 0; roll < 6; roll++) {
            x.addRoll(100, 1);
        }
        Checks.due("addRoll(100, 1) as the 7th", x.addRoll(100, 1), -3);
        Checks.sentence(0, "`NOT_FOUND = -4`: There is no such value.");
        Checks.due("NOT_FOUND", NOT_FOUND, -4);
        Checks.due("textAt(0)", x.textAt(0), -4);
    }

    private static void settings() {
        int[] most = {500, 20};
        int[] initial = {30, 3};
        for (int what = 0; what <= 1; what++) {
            Checks.sentence(0, what == 0 ? "0 thread 0 to 500, 30" : "1 patience 0 to 20, 3");
            for (int value : Wrappers.ends(0, most[what])) {
                PalletWrapper x = new PalletWrapper();
                Checks.sentence(8, "Sets a setting.");
                Checks.sentence(8, "Returns the previous value");
                Checks.due("set(" + what + ", " + value + ")", x.set(what, value), initial[what]);
                Checks.due("count(" + (4 + what) + ")", x.count(4 + what), value);
                Checks.due("count of the other one", x.count(5 - what), initial[1 - what]);
                Checks.due("set(" + what + ", 1)", x.set(what, 1), value);
                Checks.due("set(" + what + ", 1) again", x.set(what, 1), 1);
                Checks.due("count(6)", x.count(6), 3);
                x.undo();
                x.undo();
                Checks.due("count(" + (4 + what) + ") after undo()", x.count(4 + what), value);
                x.undo();
                Checks.due("count(" + (4 + what) + ") after undo()", x.count(4 + what), initial[what]);
            }
        }
    }

    private static void settingsRefused() {
        Checks.sentence(8, "`what`: 0 or 1");
        for (int value : new int[] {0, 3, 20, 21, 500, -1}) {
            Wrappers.refusesEach("set(what, " + value + ")", Wrappers::some, (x, what) -> x.set(what, value), INVALID,
                Wrappers.outside(0, 1));
        }
        Checks.sentence(8, "`value`: a value in its range");
        Checks.sentence(8, "INVALID_ARGUMENT if an argument is out of range");
        Wrappers.refusesEach("set(0, value)", Wrappers::some, (x, value) -> x.set(0, value), INVALID,
            Wrappers.outside(0, 500));
        Wrappers.refusesEach("set(1, value)", Wrappers::some, (x, value) -> x.set(1, value), INVALID,
            Wrappers.outside(0, 20));
        Wrappers.refused("set(1, 500), which is one for 0", Wrappers::some, x -> x.set(1, 500), INVALID);
        Wrappers.refused("set(2, 501)", Wrappers::nothing, x -> x.set(2, 501), INVALID);
        Wrappers.refused("set(-1, -1)", Wrappers::nothing, x -> x.set(-1, -1), INVALID);
    }

    private static void counts() {
        Checks.sentence(10, "Returns a number.");
        Checks.sentence(10, "`what`: 0: rolls; 1: waiting pallets; 2: pallets that are done; 3: steps of the program; 4 and "
            + "5: the settings; 6: states in the history; 7: the length of the text; 8: the time");
        // Two pallets are done: three turns of 5, and one of 6.
        int[] due = {2, 2, 2, 2, 25, 2, 4, 14, 21};
        for (int what = 0; what <= 8; what++) {
            int asked = what;
            Checks.sentence(10, "Returns the number");
            Wrappers.changesNothing("count(" + what + ")", Wrappers::some, x -> x.count(asked), due[what]);
        }
    }

    private static void countRefused() {
        Checks.sentence(10, "INVALID_ARGUMENT if what is out of range");
        Wrappers.refusesEach("count", Wrappers::some, PalletWrapper::count, INVALID, Wrappers.outside(0, 8));
        Wrappers.refusesEach("count", Wrappers::nothing, PalletWrapper::count, INVALID, -1, 9, 10, Integer.MIN_VALUE,
            Integer.MAX_VALUE);
    }

    /** Checks that a call is a change: one more state, and undo restores all that was before. */
    private static void change(String name, Consumer<PalletWrapper> before, Consumer<PalletWrapper> call) {
        PalletWrapper x = new PalletWrapper();
        before.accept(x);
        int states = x.count(6);
        String seen = Wrappers.seen(x);
        call.accept(x);
        Checks.due("count(6) after " + name, x.count(6), Math.min(4, states + 1));
        Checks.due("undo() after " + name, x.undo(), Math.min(4, states + 1) - 1);
        Checks.due("what is seen after undo() of " + name, Wrappers.seen(x), seen);
    }

    private static void changes() {
        Checks.sentence(0, "The changes are the calls of addRoll, weaken, addPallet, drop, set, load and wrap that return no "
            + "error.");
        Consumer<PalletWrapper> some = Wrappers::some;
        Consumer<PalletWrapper> few = x -> {
            Wrappers.some(x);
            x.undo();
            x.undo();
        };
        for (Consumer<PalletWrapper> before : List.of(some, few)) {
            change("addRoll", before, x -> succeeds(x.addRoll(300, 3)));
            change("weaken", before, x -> succeeds(x.weaken(0, 450, 3)));
            change("weaken of another roll", before, x -> succeeds(x.weaken(1, 450, 3)));
            change("addPallet", before, x -> succeeds(x.addPallet(30, 30, 30, 30, 0)));
            change("drop", before, x -> succeeds(x.drop(3)));
            change("set(0, ..)", before, x -> succeeds(x.set(0, 77)));
            change("set(1, ..)", before, x -> succeeds(x.set(1, 7)));
            change("set to what it is", before, x -> succeeds(x.set(0, x.count(4))));
            change("load", before, x -> succeeds(x.load()));
            change("wrap", before, x -> succeeds(x.wrap()));
            change("wrap for want of film", x -> {
                before.accept(x);
                Wrappers.program(x, "tension 0, stay 20");
            }, x -> Checks.due("wrap()", x.wrap(), 1));
            change("wrap with too many breaks", x -> {
                before.accept(x);
                x.set(1, 0);
                x.weaken(0, x.roll(0, 2) + 10, 0);
            }, x -> Checks.due("wrap()", x.wrap(), 2));
        }
        Consumer<PalletWrapper> none = Wrappers::nothing;
        change("addRoll", none, x -> succeeds(x.addRoll(300, 3)));
        change("addPallet", none, x -> succeeds(x.addPallet(30, 30, 30, 30, 0)));
        change("set", none, x -> succeeds(x.set(0, 30)));
        change("load of nothing", none, x -> succeeds(x.load()));
        change("wrap without steps", x -> x.addPallet(30, 30, 30, 30, 0), x -> succeeds(x.wrap()));
    }

    private static void succeeds(int answer) {
        Checks.due("whether a change returns no error", answer >= 0 ? 1 : 0, 1);
    }

    private static void noChanges() {
        Checks.sentence(0, "The changes are the calls of addRoll, weaken, addPallet, drop, set, load and wrap that return no "
            + "error.");
        PalletWrapper x = new PalletWrapper();
        x.addRoll(300, 3);
        x.addPallet(30, 30, 30, 30, 0);
        Wrappers.type(x, "stay 1");
        Checks.due("count(6) after type", x.count(6), 2);
        x.clearText();
        x.write();
        Checks.due("count(6) after clearText and write", x.count(6), 2);
        x.roll(0, 0);
        x.waiting(0, 0);
        x.count(0);
        x.fault();
        x.step(0, 0);
        x.textAt(0);
        x.ifWrap(0);
        x.done(0, 0);
        x.zone(0, 0, 0);
        x.total(0);
        x.weight();
        x.planned(0);
        x.riseFor(1);
        x.tensionFor(1);
        x.supply();
        Checks.due("count(6) after all that only tell", x.count(6), 2);
        x.addRoll(99, 3);
        x.weaken(1, 5, 5);
        x.weaken(0, 300, 5);
        x.addPallet(30, 30, 30, 30, -1);
        x.drop(1);
        x.set(0, 501);
        x.type('x');
        x.load();
        Checks.due("count(6) after errors", x.count(6), 2);
        Checks.due("undo()", x.undo(), 1);
        Checks.due("count(6) after undo(), which is no change", x.count(6), 1);
        Checks.due("count(0)", x.count(0), 1);
        Checks.due("count(1)", x.count(1), 0);
        x.wrap();
        Checks.due("count(6) after wrap() of none", x.count(6), 1);
    }

    private static void fourStates() {
        Checks.sentence(0, "A history of at most 4 states is kept");
        for (int changes = 0; changes <= 10; changes++) {
            PalletWrapper x = new PalletWrapper();
            for (int change = 1; change <= changes; change++) {
                Checks.due("set(0, " + change + ")", x.set(0, change), change == 1 ? 30 : change - 1);
                Checks.due("count(6)", x.count(6), Math.min(4, change));
            }
            int states = Math.min(4, changes);
            for (int undone = 1; undone <= states; undone++) {
                Checks.sentence(9, "Returns the number of states that are left in the history");
                Checks.due("undo()", x.undo(), states - undone);
                Checks.due("count(6)", x.count(6), states - undone);
                Checks.due("count(4)", x.count(4), changes == undone ? 30 : changes - undone);
            }
            Checks.sentence(9, "NOT_POSSIBLE if it is empty");
            Checks.due("undo() of none", x.undo(), IMPOSSIBLE);
            Checks.due("count(4)", x.count(4), changes <= 4 ? 30 : changes - 4);
            Checks.sentence(0, "A history of at most 4 states is kept");
        }
    }

    private static void fiveStates() {
        Checks.sentence(0, "each change records everything before it but the text, and if there are 5 states then, the "
            + "oldest one is dropped");
        PalletWrapper x = new PalletWrapper();
        x.addRoll(101, 1);
        x.addRoll(102, 1);
        x.addPallet(30, 30, 30, 30, 0);
        x.weaken(0, 50, 50);
        x.set(1, 9);
        Checks.due("count(6)", x.count(6), 4);
        for (int left = 3; left >= 0; left--) {
            Checks.due("undo()", x.undo(), left);
        }
        Checks.due("undo() of the first change", x.undo(), IMPOSSIBLE);
        int[] counts = {1, 0, 0, 0, 30, 3, 0, 0, 0};
        for (int what = 0; what <= 8; what++) {
            Checks.due("count(" + what + ")", x.count(what), counts[what]);
        }
        Checks.due("roll(0, 0)", x.roll(0, 0), 101);
        Checks.due("roll(0, 3)", x.roll(0, 3), 0);
    }

    private static void wrapAround() {
        Checks.sentence(0, "and if there are 5 states then, the oldest one is dropped");
        for (int changes = 90; changes <= 94; changes++) {
            PalletWrapper x = new PalletWrapper();
            for (int change = 1; change <= changes; change++) {
                x.set(0, change);
            }
            for (int undone = 1; undone <= 4; undone++) {
                Checks.due("undo() after " + changes, x.undo(), 4 - undone);
                Checks.due("count(4)", x.count(4), changes - undone);
            }
            Checks.due("undo() once more", x.undo(), IMPOSSIBLE);
            for (int change = 1; change <= 6; change++) {
                x.set(0, 200 + change);
            }
            for (int undone = 1; undone <= 4; undone++) {
                Checks.due("undo() after six more", x.undo(), 4 - undone);
                Checks.due("count(4)", x.count(4), 206 - undone);
            }
            Checks.due("undo() once more", x.undo(), IMPOSSIBLE);
        }
    }

    private static void toAndFro() {
        Checks.sentence(9, "Restores the latest state of the history, which is removed from it.");
        PalletWrapper x = new PalletWrapper();
        x.set(0, 100);
        for (int round = 0; round < 60; round++) {
            x.set(0, 200 + round);
            Checks.due("undo()", x.undo(), 1);
            Checks.due("count(4)", x.count(4), 100);
        }
        Checks.due("undo()", x.undo(), 0);
        Checks.due("count(4)", x.count(4), 30);
        // A change after undo() goes on from what was restored; what was undone does not come back.
        PalletWrapper y = new PalletWrapper();
        for (int change = 1; change <= 5; change++) {
            y.set(0, change);
        }
        y.undo();
        y.undo();
        y.set(0, 50);
        int[] values = {3, 2, 1};
        for (int left = 2; left >= 0; left--) {
            Checks.due("undo()", y.undo(), left);
            Checks.due("count(4)", y.count(4), values[2 - left]);
        }
        Checks.due("undo()", y.undo(), IMPOSSIBLE);
    }

    private static void restored() {
        Checks.sentence(0, "each change records everything before it but the text");
        PalletWrapper x = new PalletWrapper();
        Wrappers.some(x);
        String before = Wrappers.seen(x);
        Checks.due("wrap()", x.wrap(), 0);
        Checks.due("wrap()", x.wrap(), 0);
        x.addPallet(30, 30, 30, 30, 0);
        x.load();
        for (int left = 3; left >= 0; left--) {
            Checks.due("undo()", x.undo(), left);
        }
        Checks.due("what is seen after four undo()", Wrappers.seen(x), before);
        Checks.due("the number of the next pallet", x.addPallet(30, 30, 30, 30, 0), 4);
        // What was restored is not what is recorded: a later change does not reach into the history.
        PalletWrapper y = new PalletWrapper();
        y.addRoll(1000, 1);
        y.addPallet(50, 50, 30, 5000, 0);
        y.weaken(0, 70, 7);
        y.weaken(0, 60, 6);
        y.undo();
        y.weaken(0, 80, 8);
        y.weaken(0, 50, 5);
        Checks.due("roll(0, 3)", y.roll(0, 3), 3);
        y.undo();
        y.undo();
        Checks.due("roll(0, 3) after undo()", y.roll(0, 3), 1);
        Checks.due("roll(0, 4) after undo()", y.roll(0, 4), 70);
        Checks.due("roll(0, 5) after undo()", y.roll(0, 5), 7);
        y.undo();
        Checks.due("roll(0, 3) after undo()", y.roll(0, 3), 0);
        Checks.due("count(1) after undo()", y.count(1), 1);
    }

    private static void notTheText() {
        Checks.sentence(0, "each change records everything before it but the text");
        PalletWrapper x = Wrappers.withProgram("stay 1");
        Wrappers.retype(x, "stay 02, up 5");
        Checks.due("load()", x.load(), 2);
        Wrappers.type(x, "5");
        Checks.due("undo()", x.undo(), 1);
        Checks.due("step(0, 1) after undo()", x.step(0, 1), 1);
        Checks.due("the text after undo()", Wrappers.text(x), "stay 02, up 55");
        x.clearText();
        Checks.due("undo()", x.undo(), 0);
        Checks.due("count(3) after undo()", x.count(3), 0);
        Checks.due("count(7) after undo()", x.count(7), 0);
        PalletWrapper y = Wrappers.withProgram("stay 07");
        y.addRoll(100, 1);
        Checks.due("write()", y.write(), 6);
        y.undo();
        Checks.due("the text after undo()", Wrappers.text(y), "stay 7");
        y.undo();
        Checks.due("the text after undo() of load()", Wrappers.text(y), "stay 7");
    }

    private static void undoRefused() {
        Checks.sentence(9, "NOT_POSSIBLE if it is empty");
        Wrappers.refused("undo()", Wrappers::nothing, PalletWrapper::undo, IMPOSSIBLE);
        Consumer<PalletWrapper> undone = x -> {
            Wrappers.some(x);
            for (int i = 0; i < 4; i++) {
                x.undo();
            }
        };
        Wrappers.refused("undo()", undone, PalletWrapper::undo, IMPOSSIBLE);
        Wrappers.refused("undo() of a text", x -> Wrappers.type(x, "stay 1"), PalletWrapper::undo, IMPOSSIBLE);
    }

    private static void lastCalls() {
        Checks.sentence(0, "An object is used for at most 512 calls after it has been made");
        PalletWrapper x = new PalletWrapper();
        for (int call = 1; call <= 508; call += 2) {
            Checks.due("addPallet(..) as call " + call, x.addPallet(20, 20, 10, 0, 0), call / 2);
            Checks.due("wrap() as call " + (call + 1), x.wrap(), 0);
        }
        Checks.due("count(2) as call 509", x.count(2), 254);
        Checks.due("done(5, 0) as call 510", x.done(5, 0), 248);
        Checks.due("undo() as call 511", x.undo(), 3);
        Checks.due("wrap() as call 512", x.wrap(), 0);
    }

    private static void otherObjects() {
        Checks.sentence(1, "Creates a wrapper without rolls, pallets and program.");
        PalletWrapper x = new PalletWrapper();
        PalletWrapper y = new PalletWrapper();
        Wrappers.some(x);
        Checks.due("what is seen of another one", Wrappers.seen(y), Wrappers.seen(new PalletWrapper()));
        Checks.due("addPallet(..) of another one", y.addPallet(30, 30, 30, 30, 0), 0);
        Checks.due("undo() of another one", y.undo(), 0);
        Checks.due("count(1)", x.count(1), 2);
    }
}
