import java.util.function.Consumer;

/** What the document says of texts (and promises 11 to 17), sentence by sentence, on both sides of each boundary. */
final class TextEdgesTest {
    private static final int INVALID = PalletWrapper.INVALID_ARGUMENT;
    private static final int IMPOSSIBLE = PalletWrapper.NOT_POSSIBLE;
    private static final int LIMIT = PalletWrapper.LIMIT_REACHED;
    private static final int NOT_FOUND = PalletWrapper.NOT_FOUND;
    private static final String[] KINDS = {"stay", "up", "down", "tension", "stretch"};
    private static final int[] LEAST = {1, 1, 1, 0, 0};
    private static final int[] MOST = {20, 100, 100, 199, 300};

    private TextEdgesTest() {
    }

    static void run() {
        characters();
        hundredCharacters();
        cleared();
        whichCharacter();
        amounts();
        digits();
        names();
        betweenSteps();
        thirteenthStep();
        firstFault();
        faultChangesNothing();
        loaded();
        notLoaded();
        written();
        writtenInPlaceOfTheText();
    }

    private static void typeMany(PalletWrapper x, int characters) {
        for (int i = 0; i < characters; i++) {
            x.type(33 + i % 90);
        }
    }

    private static void characters() {
        Checks.sentence(11, "`character`: its code, 32 to 126");
        PalletWrapper x = new PalletWrapper();
        for (int character = 32; character <= 126; character++) {
            Checks.sentence(11, "Appends a character to the text.");
            Checks.sentence(11, "Returns the length of the text");
            Checks.due("type(" + character + ")", x.type(character), character - 31);
            Checks.due("textAt of it", x.textAt(character - 32), character);
        }
        Checks.sentence(11, "INVALID_ARGUMENT if character is out of range");
        Wrappers.refusesEach("type", Wrappers::some, PalletWrapper::type, INVALID, Wrappers.outside(32, 126));
        Wrappers.refusesEach("type", Wrappers::nothing, PalletWrapper::type, INVALID, 0, 9, 10, 31, 127, 128, 160, 255,
            65536 + 32, 65536 + 126, -32);
    }

    private static void hundredCharacters() {
        Checks.sentence(0, "There is a text of at most 100 characters, initially empty.");
        Checks.due("count(7) of a new one", new PalletWrapper().count(7), 0);
        for (int length : new int[] {0, 1, 98, 99}) {
            PalletWrapper x = new PalletWrapper();
            typeMany(x, length);
            Checks.due("type(65) after " + length, x.type(65), length + 1);
            Checks.due("count(7)", x.count(7), length + 1);
            Checks.due("textAt(" + length + ")", x.textAt(length), 65);
        }
        Checks.sentence(11, "LIMIT_REACHED if the text has 100 characters");
        Consumer<PalletWrapper> full = x -> typeMany(x, 100);
        Wrappers.refusesEach("type as the 101st", full, PalletWrapper::type, LIMIT, 32, 65, 126);
        Checks.sentence(0, "If several errors apply to a call, INVALID_ARGUMENT is returned rather than NOT_POSSIBLE, "
            + "NOT_POSSIBLE rather than LIMIT_REACHED, and LIMIT_REACHED rather than NOT_FOUND.");
        Wrappers.refusesEach("type as the 101st", full, PalletWrapper::type, INVALID, 31, 127, -1);
        Checks.sentence(11, "LIMIT_REACHED if the text has 100 characters");
        PalletWrapper x = new PalletWrapper();
        full.accept(x);
        Checks.due("clearText()", x.clearText(), 100);
        Checks.due("type(65) after clearText()", x.type(65), 1);
        typeMany(x, 99);
        Checks.due("type(65) as the 101st", x.type(65), LIMIT);
    }

    private static void cleared() {
        Checks.sentence(12, "Empties the text.");
        Checks.sentence(12, "Returns the length it had.");
        for (int length : new int[] {0, 1, 2, 99, 100}) {
            PalletWrapper x = new PalletWrapper();
            typeMany(x, length);
            Checks.due("clearText() of " + length, x.clearText(), length);
            Checks.due("count(7)", x.count(7), 0);
            Checks.due("textAt(0)", x.textAt(0), NOT_FOUND);
            Checks.due("clearText() again", x.clearText(), 0);
            Checks.due("fault()", x.fault(), NOT_FOUND);
        }
        PalletWrapper x = Wrappers.withProgram("stay 7");
        x.clearText();
        Checks.due("step(0, 1), as the program stays", x.step(0, 1), 7);
        Checks.due("count(6), as it is no change", x.count(6), 1);
    }

    private static void whichCharacter() {
        Checks.sentence(17, "NOT_FOUND if the text is not so long");
        for (int length : new int[] {0, 1, 2, 50, 99, 100}) {
            Consumer<PalletWrapper> typed = x -> typeMany(x, length);
            Wrappers.refusesEach("textAt of " + length, typed, PalletWrapper::textAt, NOT_FOUND, length, length + 1,
                100, 101, 65536, Integer.MAX_VALUE);
            if (length > 0) {
                Checks.sentence(17, "Returns a character of the text.");
                Checks.sentence(17, "`index`: its index");
                Checks.sentence(17, "Returns its code");
                Wrappers.changesNothing("textAt(" + (length - 1) + ")", typed, x -> x.textAt(length - 1),
                    33 + (length - 1) % 90);
                Wrappers.changesNothing("textAt(0)", typed, x -> x.textAt(0), 33);
                Checks.sentence(17, "NOT_FOUND if the text is not so long");
            }
        }
        Checks.sentence(17, "INVALID_ARGUMENT if index is negative");
        Wrappers.refusesEach("textAt", Wrappers::some, PalletWrapper::textAt, INVALID, -1, -2, -65536,
            Integer.MIN_VALUE);
        Wrappers.refused("textAt(-1) of an empty text", Wrappers::nothing, x -> x.textAt(-1), INVALID);
        PalletWrapper shorter = new PalletWrapper();
        typeMany(shorter, 9);
        shorter.clearText();
        typeMany(shorter, 3);
        Checks.due("textAt(2)", shorter.textAt(2), 35);
        Checks.due("textAt(3), which was there before", shorter.textAt(3), NOT_FOUND);
    }

    /** Checks fault and load, and what load makes of it: a step of this kind and amount if there is no fault. */
    private static void step(String text, int kind, int amount, boolean whole) {
        PalletWrapper x = new PalletWrapper();
        Wrappers.type(x, text);
        Checks.due("fault() of '" + text + "'", x.fault(), whole ? NOT_FOUND : 0);
        Checks.due("load() of '" + text + "'", x.load(), whole ? 1 : IMPOSSIBLE);
        Checks.due("step(0, 0) of '" + text + "'", x.step(0, 0), whole ? kind : NOT_FOUND);
        Checks.due("step(0, 1) of '" + text + "'", x.step(0, 1), whole ? amount : NOT_FOUND);
    }

    private static void amounts() {
        Checks.sentence(0, "The fault of the text is the index of the first character of the first step that is not of "
            + "this form, whose amount is out of its range");
        for (int kind = 0; kind < 5; kind++) {
            for (int amount = 0; amount <= 999; amount += amount < 310 ? 1 : 53) {
                boolean whole = amount >= LEAST[kind] && amount <= MOST[kind];
                step(KINDS[kind] + " " + amount, kind, amount, whole);
            }
            step(KINDS[kind] + " 999", kind, 999, false);
            step(KINDS[kind] + " -1", kind, -1, false);
        }
    }

    private static void digits() {
        Checks.sentence(0, "its amount (1 to 3 digits; zeros may stand ahead).");
        for (int kind = 0; kind < 5; kind++) {
            String name = KINDS[kind];
            for (int amount : new int[] {0, 1, 9}) {
                boolean whole = amount >= LEAST[kind];
                step(name + " " + amount, kind, amount, whole);
                step(name + " 0" + amount, kind, amount, whole);
                step(name + " 00" + amount, kind, amount, whole);
                step(name + " 000" + amount, kind, amount, false);
                step(name + " 0000" + amount, kind, amount, false);
            }
            step(name + " 10", kind, 10, true);
            step(name + " 010", kind, 10, true);
            step(name + " 0010", kind, 10, false);
            step(name + " 100", kind, 100, MOST[kind] >= 100);
            step(name + " 0100", kind, 100, false);
            step(name + " 1000", kind, 1000, false);
            step(name + " 4294967297", kind, 1, false);
            String[] others = {"", "/", ":", "a", "x1", "1x", "+1", "-1", " 1", "1 ", "1.", "1,", "1, ", "1/", "1:", "0x1"};
            for (String other : others) {
                step(name + " " + other, kind, 1, false);
            }
        }
    }

    private static void names() {
        Checks.sentence(0, "a step is the name of its kind, a blank, and its amount");
        for (String name : KINDS) {
            String first = name.substring(0, 1);
            String rest = name.substring(1);
            String last = name.substring(name.length() - 1);
            String[] wrong = {name, name + " ", name + "5", name + "  5", name + ",5", name + "-5", name + last + " 5",
                name.substring(0, name.length() - 1) + " 5", rest + " 5", " " + name + " 5", first + first + rest + " 5",
                first.toUpperCase() + rest + " 5", name.toUpperCase() + " 5", name.replace('t', 'r') + "x 5",
                first, name.substring(0, name.length() - 1), name + "! 5", "a" + rest + " 5", name + "!5"};
            for (String text : wrong) {
                step(text, 0, 5, false);
            }
            for (int i = 0; i < name.length(); i++) {
                step(name.substring(0, i) + "z" + name.substring(i + 1) + " 5", 0, 5, false);
            }
        }
        String[] wrong = {" ", "5", " 5", ",", ", ", "halt 5", "stay up 5", "updown 5", "tensionstretch 5", "~"};
        for (String text : wrong) {
            step(text, 0, 5, false);
        }
    }

    private static void faultIs(String text, int due, int steps) {
        PalletWrapper x = new PalletWrapper();
        Wrappers.type(x, text);
        Checks.due("fault() of '" + text + "'", x.fault(), due);
        Checks.due("load() of '" + text + "'", x.load(), due == NOT_FOUND ? steps : IMPOSSIBLE);
        Checks.due("count(3) after load()", x.count(3), due == NOT_FOUND ? steps : 0);
        Checks.due("count(6) after load()", x.count(6), due == NOT_FOUND ? 1 : 0);
    }

    private static void betweenSteps() {
        Checks.sentence(0, "A program is a sequence of steps with \", \" (a comma and a blank) between two of them");
        faultIs("stay 1", NOT_FOUND, 1);
        faultIs("stay 1, up 2", NOT_FOUND, 2);
        faultIs("stay 001, up 002, down 3", NOT_FOUND, 3);
        Checks.sentence(0, "or that is followed by something else than a comma, a blank and a further character "
            + "(unless the text ends with it)");
        // The first step is at fault: nothing, too little or something else stands behind it.
        String[] behindFirst = {",", ", ", ",u", ",up 2", " ", " ,", " , up 2", "  up 2", ",,", ",, up 2", "; up 2",
            ". up 2", " up 2", "up 2", ",_up 2", "-, up 2", "x, up 2", "1111, up 2"};
        for (String behind : behindFirst) {
            faultIs("stay 1" + behind, 0, 0);
            faultIs("up 2, stay 1" + behind, 6, 0);
            faultIs("up 2, up 3, stay 1" + behind, 12, 0);
        }
        // A further character stands there, so that the second one is at fault.
        String[] second = {"x", " ", ",", "  ", ", ", " up 2", ", up 2", "up", "up ", "up 0", "up 101", "up 2,", "up 2, ",
            "up 2x", "1"};
        for (String step : second) {
            faultIs("stay 1, " + step, 8, 0);
            faultIs("stay 01, " + step, 9, 0);
            faultIs("stay 1, down 22, " + step, 17, 0);
        }
        // There is no step before the first comma.
        faultIs(", up 2", 0, 0);
        faultIs(", stay 1, up 2", 0, 0);
        faultIs(",up 2", 0, 0);
        Checks.sentence(0, "The empty text is the program without steps.");
        faultIs("", NOT_FOUND, 0);
        faultIs(" ", 0, 0);
    }

    private static String steps(int count) {
        StringBuilder text = new StringBuilder();
        for (int i = 0; i < count; i++) {
            text.append(i == 0 ? "" : ", ").append("up ").append(1 + i % 9);
        }
        return text.toString();
    }

    private static void thirteenthStep() {
        Checks.sentence(0, "whose amount is out of its range, that is a 13th one, or");
        for (int count = 1; count <= 12; count++) {
            faultIs(steps(count), NOT_FOUND, count);
            faultIs(steps(count) + ",", 6 * (count - 1), 0);
            faultIs(steps(count) + ", ", 6 * (count - 1), 0);
            faultIs(steps(count) + ", x", 6 * count, 0);
        }
        faultIs(steps(13), 72, 0);
        faultIs(steps(14), 72, 0);
        faultIs(steps(16), 72, 0);
        faultIs(steps(13) + ", ", 72, 0);
        faultIs(steps(12) + ", up 0", 72, 0);
        faultIs(steps(11) + ", up 0, up 1", 66, 0);
        faultIs(steps(11) + ", up 0", 66, 0);
    }

    private static void firstFault() {
        Checks.sentence(0, "The fault of the text is the index of the first character of the first step");
        faultIs("up 0, up 0, up 0", 0, 0);
        faultIs("up 1, up 0, up 0", 6, 0);
        faultIs("up 1, up 1, up 0", 12, 0);
        faultIs("up 1, up 101, x", 6, 0);
        faultIs("up 1, x, up 101", 6, 0);
        faultIs("up 1, x,", 6, 0);
        faultIs("stretch 300, tension 199, stay 20, up 100, down 100, stay 21", 53, 0);
        // A fault is told up to the last place of the longest text.
        String longest = "stretch 100, stretch 100, stretch 100, stretch 100, stretch 100, stretch 100, stretch 100, up 00";
        faultIs(longest + "1", NOT_FOUND, 8);
        faultIs(longest + "0", 91, 0);
        faultIs(longest + "1,", 91, 0);
        faultIs(longest.replace("up 00", "stay 1") + ", u", 99, 0);
        Checks.sentence(13, "NOT_FOUND if it has none");
        faultIs(longest.replace("up 00", "tension 7"), NOT_FOUND, 8);
    }

    private static void faultChangesNothing() {
        Checks.sentence(13, "Returns the fault of the text");
        Wrappers.changesNothing("fault()", Wrappers::some, PalletWrapper::fault, NOT_FOUND);
        Wrappers.changesNothing("fault()", Wrappers::nothing, PalletWrapper::fault, NOT_FOUND);
        Consumer<PalletWrapper> faulty = x -> {
            Wrappers.some(x);
            Wrappers.type(x, ", x");
        };
        Wrappers.changesNothing("fault()", faulty, PalletWrapper::fault, 16);
    }

    private static void loaded() {
        Checks.sentence(14, "Makes the program that of the text, which stays.");
        Checks.sentence(14, "Returns the number of steps");
        PalletWrapper x = Wrappers.withProgram("stay 1, stay 2, stay 3");
        Wrappers.retype(x, "down 004");
        Checks.due("load() of one step", x.load(), 1);
        Checks.due("count(3)", x.count(3), 1);
        Checks.due("step(0, 0)", x.step(0, 0), 2);
        Checks.due("step(0, 1)", x.step(0, 1), 4);
        Checks.due("step(1, 0) of the program before", x.step(1, 0), NOT_FOUND);
        Checks.due("the text", Wrappers.text(x), "down 004");
        Checks.due("load() of the same", x.load(), 1);
        Checks.due("count(6)", x.count(6), 3);
        x.clearText();
        Checks.due("load() of an empty text", x.load(), 0);
        Checks.due("step(0, 0)", x.step(0, 0), NOT_FOUND);
        Checks.due("undo()", x.undo(), 3);
        Checks.due("step(0, 1) after undo()", x.step(0, 1), 4);
        // What is typed later is not the program.
        Wrappers.retype(x, "up 9");
        Checks.due("step(0, 0)", x.step(0, 0), 2);
    }

    private static void notLoaded() {
        Checks.sentence(14, "NOT_POSSIBLE if the text has a fault");
        String[] faulty = {" ", "stay", "stay 0", "stay 1,", "stay 1, ", "stay 1, up 0", "stay 1, up 1, x",
            "stay 1, up 2, down 3, tension 4, stretch 301"};
        for (String text : faulty) {
            Consumer<PalletWrapper> typed = x -> {
                Wrappers.some(x);
                Wrappers.retype(x, text);
            };
            Wrappers.refused("load() of '" + text + "'", typed, PalletWrapper::load, IMPOSSIBLE);
            Wrappers.refused("load() of '" + text + "'", x -> Wrappers.type(x, text), PalletWrapper::load, IMPOSSIBLE);
        }
        Wrappers.refused("load() of 13 steps", x -> Wrappers.type(x, steps(13)), PalletWrapper::load, IMPOSSIBLE);
    }

    private static void writtenIs(String program, String due) {
        PalletWrapper x = Wrappers.withProgram(program);
        Checks.due("write() of '" + program + "'", x.write(), due.length());
        Checks.due("count(7)", x.count(7), due.length());
        Checks.due("the text after write()", Wrappers.text(x), due);
        Checks.due("fault() after write()", x.fault(), NOT_FOUND);
    }

    private static void written() {
        Checks.sentence(16, "with amounts without zeros ahead");
        for (int kind = 0; kind < 5; kind++) {
            for (int amount : new int[] {0, 1, 9, 10, 11, 19, 20, 90, 99, 100, 101, 109, 110, 190, 199, 200, 299, 300}) {
                if (amount >= LEAST[kind] && amount <= MOST[kind]) {
                    String padded = amount > 99 ? "" + amount : amount > 9 ? "0" + amount : "00" + amount;
                    writtenIs(KINDS[kind] + " " + amount, KINDS[kind] + " " + amount);
                    writtenIs(KINDS[kind] + " " + padded, KINDS[kind] + " " + amount);
                    writtenIs("up 07, " + KINDS[kind] + " " + padded, "up 7, " + KINDS[kind] + " " + amount);
                }
            }
        }
        Checks.sentence(16, "Returns the length of the text.");
        writtenIs("", "");
        writtenIs(steps(12), steps(12));
        // 100 characters are not cut off, and there is no longer program, as it comes from a text.
        Checks.sentence(16, "(A text longer than 100 characters is cut off behind the 100th one.)");
        String sevenSteps = "stretch 100, stretch 110, stretch 120, stretch 130, stretch 140, stretch 150, stretch 160";
        writtenIs(sevenSteps + ", stay 9", sevenSteps + ", stay 9");
        writtenIs(sevenSteps + ", stay 10", sevenSteps + ", stay 10");
        writtenIs(sevenSteps + ", down 100", sevenSteps + ", down 100");
        writtenIs(sevenSteps + ", tension 7", sevenSteps + ", tension 7");
        writtenIs(sevenSteps + ", stay 009", sevenSteps + ", stay 9");
    }

    private static void writtenInPlaceOfTheText() {
        Checks.sentence(16, "Writes the program as a text, in place of the text");
        for (int length : new int[] {0, 1, 5, 6, 7, 99, 100}) {
            PalletWrapper x = Wrappers.withProgram("stay 7");
            x.clearText();
            typeMany(x, length);
            Checks.due("write() over " + length, x.write(), 6);
            Checks.due("the text", Wrappers.text(x), "stay 7");
            Checks.due("textAt(6)", x.textAt(6), NOT_FOUND);
            Checks.due("count(6), as it is no change", x.count(6), 1);
            Checks.due("type(44) behind it", x.type(44), 7);
        }
        PalletWrapper none = new PalletWrapper();
        typeMany(none, 20);
        Checks.due("write() without steps", none.write(), 0);
        Checks.due("textAt(0)", none.textAt(0), NOT_FOUND);
        PalletWrapper twice = Wrappers.withProgram("stay 7, up 05");
        Checks.due("write()", twice.write(), 12);
        Checks.due("write() again", twice.write(), 12);
        Checks.due("load() of it", twice.load(), 2);
        Checks.due("step(1, 1)", twice.step(1, 1), 5);
    }
}
