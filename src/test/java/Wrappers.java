import java.util.function.Consumer;
import java.util.function.ToIntFunction;

/** What the tests do with wrappers over and over. */
final class Wrappers {
    private Wrappers() {
    }

    static void type(PalletWrapper x, String text) {
        for (int i = 0; i < text.length(); i++) {
            Checks.due("type(" + (int) text.charAt(i) + ")", x.type(text.charAt(i)) > 0 ? 1 : 0, 1);
        }
    }

    static void retype(PalletWrapper x, String text) {
        x.clearText();
        type(x, text);
    }

    /** Makes this the program; the text is that of the program then. */
    static void program(PalletWrapper x, String text) {
        retype(x, text);
        Checks.due("load() of " + text, x.load() >= 0 ? 1 : 0, 1);
    }

    static PalletWrapper withProgram(String text) {
        PalletWrapper x = new PalletWrapper();
        program(x, text);
        return x;
    }

    static String text(PalletWrapper x) {
        StringBuilder text = new StringBuilder();
        int length = x.count(7);
        for (int i = 0; i < length; i++) {
            text.append((char) x.textAt(i));
        }
        return text.toString();
    }

    /** All that is restored by undo, and the text; with low pallets some 400 calls at the most. */
    static String seen(PalletWrapper x) {
        StringBuilder seen = new StringBuilder();
        for (int what = 0; what <= 8; what++) {
            seen.append(what == 6 ? 0 : x.count(what)).append(' ');
        }
        seen.append("\nrolls");
        for (int roll = 0; roll < x.count(0); roll++) {
            for (int what = 0; what <= 5; what++) {
                seen.append(' ').append(x.roll(roll, what));
            }
        }
        seen.append("\npallets");
        for (int index = 0; index < x.count(1); index++) {
            for (int what = 0; what <= 5; what++) {
                seen.append(' ').append(x.waiting(index, what));
            }
        }
        seen.append("\nprogram");
        for (int index = 0; index < x.count(3); index++) {
            seen.append(' ').append(x.step(index, 0)).append(':').append(x.step(index, 1));
        }
        seen.append("\ntext ").append(text(x)).append("\ndone");
        for (int index = 0; index < Math.min(6, x.count(2)); index++) {
            for (int what = 0; what <= 12; what++) {
                seen.append(' ').append(x.done(index, what));
            }
            for (int zone = 0; zone < x.done(index, 12); zone++) {
                seen.append(' ').append(x.zone(index, zone, 0)).append(':').append(x.zone(index, zone, 1));
            }
        }
        seen.append("\ntotals");
        for (int what = 0; what <= 9; what++) {
            seen.append(' ').append(x.total(what));
        }
        return seen.append(' ').append(x.weight()).toString();
    }

    /** Checks that the call answers this error, and that the wrapper is then as if it had not been made. */
    static void refused(String name, Consumer<PalletWrapper> before, ToIntFunction<PalletWrapper> call, int error) {
        changesNothing(name, before, call, error);
    }

    /**
     * Checks the answer, and that the wrapper is then as one in which the call was not made; so, too, after
     * each number of undos. New objects for each number keep the calls of an object below 512.
     */
    static void changesNothing(String name, Consumer<PalletWrapper> before, ToIntFunction<PalletWrapper> call, int due) {
        for (int undos = 0; undos <= 4; undos++) {
            PalletWrapper called = new PalletWrapper();
            PalletWrapper other = new PalletWrapper();
            before.accept(called);
            before.accept(other);
            Checks.due(name, call.applyAsInt(called), due);
            Checks.due("count(6) after " + name, called.count(6), other.count(6));
            for (int i = 0; i < undos; i++) {
                Checks.due("undo() after " + name, called.undo(), other.undo());
            }
            String place = " after " + name + " and " + undos + " undo()";
            Checks.due("what is seen" + place, seen(called), seen(other));
            Checks.due("what comes" + place, coming(called), coming(other));
        }
    }

    /** What is not seen before more calls are made: the number of the next pallet, and what would happen. */
    private static String coming(PalletWrapper x) {
        StringBuilder coming = new StringBuilder();
        for (int what = 0; what <= 9; what++) {
            coming.append(x.ifWrap(what)).append(' ');
        }
        coming.append(x.supply()).append(' ').append(x.fault()).append(' ').append(x.drop(x.waiting(0, 0)));
        coming.append(' ').append(x.addPallet(50, 50, 30, 5000, 7)).append(' ').append(x.addRoll(100, 1));
        return coming.append(' ').append(x.wrap()).append(' ').append(x.load()).toString();
    }

    /** A call with one argument that is varied. */
    interface Call {
        int with(PalletWrapper x, int value);
    }

    /** Each of these values is answered by this error, and changes nothing. */
    static void refusesEach(String name, Consumer<PalletWrapper> before, Call call, int error, int... values) {
        for (int value : values) {
            refused(name + " with " + value, before, x -> call.with(x, value), error);
        }
    }

    /** The values outside of the range: those beside it, some far away, and the greatest ones there are. */
    static int[] outside(int least, int most) {
        return new int[] {least - 1, least - 2, -1 - most, most + 1, most + 2, most + 65536, most + (1 << 24),
            Integer.MIN_VALUE, Integer.MIN_VALUE + least, Integer.MAX_VALUE};
    }

    /** The values at both ends of the range, and those next to them. */
    static int[] ends(int least, int most) {
        return new int[] {least, least + 1, (least + most) / 2, most - 1, most};
    }

    static void nothing(PalletWrapper x) {
        Checks.due("count(6) of a new one", x.count(6), 0);
    }

    /**
     * Some of everything: the first of two rolls is drawn from up to 420 (a weak place is before that), two
     * pallets wait, two are done (zones differ, a turn was skipped), the text is not that of the program, and
     * the history is full.
     */
    static void some(PalletWrapper x) {
        x.addRoll(1000, 5);
        x.weaken(0, 50, 199);
        x.weaken(0, 600, 30);
        x.addRoll(700, 9);
        x.weaken(1, 300, 10);
        program(x, "stay 2, up 20");
        x.addPallet(50, 50, 70, 5000, 4);
        x.addPallet(50, 50, 70, 150, 6);
        x.addPallet(60, 60, 40, 56, 5);
        x.addPallet(70, 60, 110, 900, 6);
        x.set(0, 25);
        x.wrap();
        x.wrap();
        x.set(1, 2);
        retype(x, "stay 3, down 7");
    }
}
