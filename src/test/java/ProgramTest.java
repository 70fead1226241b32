import java.util.function.Consumer;

/** Promises 11 to 17. */
final class ProgramTest {
    private static final int INVALID = PalletWrapper.INVALID_ARGUMENT;
    private static final int IMPOSSIBLE = PalletWrapper.NOT_POSSIBLE;
    private static final int LIMIT = PalletWrapper.LIMIT_REACHED;
    private static final int NOT_FOUND = PalletWrapper.NOT_FOUND;
    private static final String TWELVE =
        "up 1, up 2, up 3, up 4, up 5, up 6, up 7, up 8, up 9, up 10, up 11, up 12";

    private ProgramTest() {
    }

    static void run() {
        type();
        clearText();
        fault();
        faultOfTheForm();
        faultOfTheNumberOfSteps();
        load();
        step();
        write();
        textAt();
    }

    private static void type() {
        Checks.promise(11);
        PalletWrapper x = new PalletWrapper();
        Checks.due("type(32)", x.type(32), 1);
        Checks.due("type(126)", x.type(126), 2);
        Checks.due("type(31)", x.type(31), INVALID);
        Checks.due("type(127)", x.type(127), INVALID);
        Checks.due("count(7)", x.count(7), 2);
        for (int length = 3; length <= 100; length++) {
            Checks.due("type(65)", x.type(65), length);
        }
        Checks.due("type(65) as a 101st one", x.type(65), LIMIT);
        Checks.due("type(31) as a 101st one", x.type(31), INVALID);
        Checks.due("count(7)", x.count(7), 100);
        Checks.due("textAt(0)", x.textAt(0), 32);
        Checks.due("textAt(1)", x.textAt(1), 126);
        Checks.due("textAt(99)", x.textAt(99), 65);
        Checks.due("count(6), as it is no change", x.count(6), 0);
        Consumer<PalletWrapper> some = y -> y.type('a');
        Wrappers.refused("type(-1)", some, y -> y.type(-1), INVALID);
        Wrappers.refused("type(65 + 65536)", some, y -> y.type(65 + 65536), INVALID);
    }

    private static void clearText() {
        Checks.promise(12);
        PalletWrapper x = new PalletWrapper();
        Checks.due("clearText()", x.clearText(), 0);
        Wrappers.type(x, "abc");
        Checks.due("clearText()", x.clearText(), 3);
        Checks.due("count(7)", x.count(7), 0);
        Checks.due("textAt(0)", x.textAt(0), NOT_FOUND);
        Checks.due("type(65)", x.type(65), 1);
        Checks.due("textAt(0)", x.textAt(0), 65);
        Checks.due("textAt(1)", x.textAt(1), NOT_FOUND);
        Checks.due("count(6), as it is no change", x.count(6), 0);
    }

    private static void faultIs(String text, int due) {
        PalletWrapper x = new PalletWrapper();
        Wrappers.type(x, text);
        Checks.due("fault() of '" + text + "'", x.fault(), due);
        Checks.due("load() of '" + text + "'", Math.min(0, x.load()), due == NOT_FOUND ? 0 : IMPOSSIBLE);
        Checks.due("the text after fault()", Wrappers.text(x), text);
    }

    private static void fault() {
        Checks.promise(13);
        faultIs("", NOT_FOUND);
        String[] whole = {"stay 1", "stay 20", "up 1", "up 100", "down 1", "down 100", "tension 0", "tension 199",
            "stretch 0", "stretch 300", "stay 001", "up 010", "tension 000", "stay 1, up 25", TWELVE};
        for (String text : whole) {
            faultIs(text, NOT_FOUND);
        }
        String[] outOfRange = {"stay 0", "stay 21", "up 0", "up 101", "down 0", "down 101", "tension 200",
            "stretch 301", "stay 000", "stretch 999", "tension -1"};
        for (String text : outOfRange) {
            faultIs(text, 0);
            faultIs("stay 1, " + text, 8);
            faultIs(text + ", stay 1", 0);
        }
        faultIs("stay 1, up 0, stay 0", 8);
        faultIs("stay 1, stay 2, x", 16);
    }

    private static void faultOfTheForm() {
        Checks.promise(13);
        String[] wrong = {" ", ",", "stay", "stay ", "sta 1", "stay1", "stay  1", "Stay 1", " stay 1", "stay 1 ",
            "stay 1,", "stay 1, ", "stay 1,up 2", "stay 1 ,up 2", "stay 1; up 2", "stay 0001", "stay 1234", "up 1a",
            "upp 1", "stays 1", "down x", "stretch 1.", "tensio 5", "s", "12", "stay 1up 1", "stay /", "stay :",
            "stay 1,, up 2"};
        for (String text : wrong) {
            faultIs(text, 0);
            faultIs("down 33, " + text, 9);
        }
        faultIs("stay 1,  up 2", 8);
        faultIs("stay 1, , up 2", 8);
        faultIs("stay 1, x", 8);
    }

    private static void faultOfTheNumberOfSteps() {
        Checks.promise(13);
        faultIs(TWELVE + ", up 13", TWELVE.length() + 2);
        faultIs(TWELVE + ", x", TWELVE.length() + 2);
        faultIs(TWELVE + ", ", TWELVE.length() - 5);
        faultIs(TWELVE + ",", TWELVE.length() - 5);
        faultIs(TWELVE + "x", TWELVE.length() - 5);
    }

    private static void load() {
        Checks.promise(14);
        PalletWrapper x = new PalletWrapper();
        Wrappers.type(x, "stay 2, up 25, stretch 007");
        Checks.due("load()", x.load(), 3);
        Checks.due("count(3)", x.count(3), 3);
        Checks.due("count(6)", x.count(6), 1);
        Checks.due("the text that stays", Wrappers.text(x), "stay 2, up 25, stretch 007");
        Checks.due("step(2, 1)", x.step(2, 1), 7);
        Wrappers.retype(x, TWELVE);
        Checks.due("load() of 12 steps", x.load(), 12);
        x.clearText();
        Checks.due("load() of nothing", x.load(), 0);
        Checks.due("count(3)", x.count(3), 0);
        Checks.due("undo()", x.undo(), 2);
        Checks.due("count(3)", x.count(3), 12);
        Checks.due("count(7), which is not restored", x.count(7), 0);
        Consumer<PalletWrapper> faulty = y -> {
            Wrappers.program(y, "stay 3, up 4");
            Wrappers.retype(y, "stay 1, down 0");
        };
        Wrappers.refused("load() of a fault", faulty, PalletWrapper::load, IMPOSSIBLE);
        PalletWrapper asked = Wrappers.withProgram("stay 3, up 4");
        Wrappers.retype(asked, "down 7");
        asked.fault();
        Checks.due("step(0, 0) after fault()", asked.step(0, 0), 0);
        Checks.due("step(0, 1) after fault()", asked.step(0, 1), 3);
    }

    private static void step() {
        Checks.promise(15);
        PalletWrapper x = Wrappers.withProgram("stretch 150, tension 0, down 9, up 8, stay 7");
        int[] amounts = {7, 8, 9, 0, 150};
        for (int kind = 0; kind <= 4; kind++) {
            Checks.due("step(" + (4 - kind) + ", 0)", x.step(4 - kind, 0), kind);
            Checks.due("step(" + (4 - kind) + ", 1)", x.step(4 - kind, 1), amounts[kind]);
        }
        Checks.due("step(5, 0)", x.step(5, 0), NOT_FOUND);
        Checks.due("step(5, 2)", x.step(5, 2), INVALID);
        Checks.due("step(-1, 0)", x.step(-1, 0), INVALID);
        Checks.due("step(0, -1)", x.step(0, -1), INVALID);
        Checks.due("step(0, 2)", x.step(0, 2), INVALID);
    }

    private static void written(String program, String due) {
        PalletWrapper x = Wrappers.withProgram(program);
        Wrappers.retype(x, "something else");
        Checks.due("write()", x.write(), due.length());
        Checks.due("the text after write()", Wrappers.text(x), due);
        Checks.due("count(6), as it is no change", x.count(6), 1);
    }

    private static void write() {
        Checks.promise(16);
        written("", "");
        written("stay 007", "stay 7");
        written("tension 000, stretch 010, up 100, down 99, stay 20", "tension 0, stretch 10, up 100, down 99, stay 20");
        written("stretch 300, tension 101, stretch 110", "stretch 300, tension 101, stretch 110");
        written(TWELVE, TWELVE);
        String eight = "stretch 100, stretch 101, stretch 102, stretch 103, stretch 104, stretch 105, stretch 106, up 1";
        written(eight, eight);
        longText();
    }

    /** No program is longer as a text than the one that it was loaded from, so there is none to be cut off. */
    private static void longText() {
        String full = "stretch 100, stretch 101, stretch 102, stretch 103, stretch 104, stretch 105, stretch 106, tension 7";
        PalletWrapper x = Wrappers.withProgram(full);
        Checks.due("write()", x.write(), full.length());
        Checks.due("load() of what was written", x.load(), 8);
        x.clearText();
        Checks.due("write()", x.write(), full.length());
        Checks.due("fault() of what was written", x.fault(), NOT_FOUND);
    }

    private static void textAt() {
        Checks.promise(17);
        PalletWrapper x = new PalletWrapper();
        Wrappers.type(x, "a ~");
        Checks.due("textAt(0)", x.textAt(0), 97);
        Checks.due("textAt(1)", x.textAt(1), 32);
        Checks.due("textAt(2)", x.textAt(2), 126);
        Checks.due("textAt(3)", x.textAt(3), NOT_FOUND);
        Checks.due("textAt(100)", x.textAt(100), NOT_FOUND);
        Checks.due("textAt(-1)", x.textAt(-1), INVALID);
    }
}
