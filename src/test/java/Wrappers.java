import java.util.function.Consumer;
import java.util.function.ToIntFunction;

/** What the tests do with wrappers over and over. */
final class Wrappers {
    private Wrappers() {
    }

    static void type(PalletWrapper x, String text) {
        for (int i = 0; i < text.length(); i++) {
            Checks.due("type(" + (int) text.charAt(i) + ")", x.type(text.charAt(i)) > 0 ? 1 : 0, 1);
        }
    }

    static void retype(PalletWrapper x, String text) {
        x.clearText();
        type(x, text);
    }

    /** Makes this the program; the text is that of the program then. */
    static void program(PalletWrapper x, String text) {
        retype(x, text);
        Checks.due("load() of " + text, x.load() >= 0 ? 1 : 0, 1);
    }

    static PalletWrapper withProgram(String text) {
        PalletWrapper x = new PalletWrapper();
        program(x, text);
        return x;
    }

    static String text(PalletWrapper x) {
        StringBuilder text = new StringBuilder();
        int length = x.count(7);
        for (int i = 0; i < length; i++) {
            text.append((char) x.textAt(i));
        }
        return text.toString();
    }

    /** All that is restored by undo, and the text; with low pallets some 400 calls at the most. */
    static String seen(PalletWrapper x) {
        StringBuilder seen = new StringBuilder();
        for (int what = 0; what <= 8; what++) {
            seen.append(what == 6 ? 0 : x.count(what)).append(' ');
        }
        seen.append("\nrolls");
        for (int roll = 0; roll < x.count(0); roll++) {
            for (int what = 0; what <= 5; what++) {
                seen.append(' ').append(x.roll(roll, what));
            }
        }
        seen.append("\npallets");
        for (int index = 0; index < x.count(1); index++) {
            for (int what = 0; what <= 5; what++) {
                seen.append(' ').append(x.waiting(index, what));
            }
        }
        seen.append("\nprogram");
        for (int index = 0; index < x.count(3); index++) {
            seen.append(' ').append(x.step(index, 0)).append(':').append(x.step(index, 1));
        }
        seen.append("\ntext ").append(text(x)).append("\ndone");
        for (int index = 0; index < Math.min(6, x.count(2)); index++) {
            for (int what = 0; what <= 12; what++) {
                seen.append(' ').append(x.done(index, what));
            }
            for (int zone = 0; zone < x.done(index, 12); zone++) {
                seen.append(' ').append(x.zone(index, zone, 0)).append(':').append(x.zone(index, zone, 1));
            }
        }
        seen.append("\ntotals");
        for (int what = 0; what <= 9; what++) {
            seen.append(' ').append(x.total(what));
        }
        return seen.append(' ').append(x.weight()).toString();
    }

    /** Checks that the call answers this error, and that the wrapper is then as if it had not been made. */
    static void refused(String name, Consumer<PalletWrapper> before, ToIntFunction<PalletWrapper> call, int error) {
        PalletWrapper called = new PalletWrapper();
        PalletWrapper other = new PalletWrapper();
        before.accept(called);
        before.accept(other);
        Checks.due(name, call.applyAsInt(called), error);
        Checks.due("what is seen after " + name, seen(called), seen(other));
        Checks.due("count(6) after " + name, called.count(6), other.count(6));
        Checks.due("undo() after " + name, called.undo(), other.undo());
        Checks.due("what is seen after " + name + " and undo()", seen(called), seen(other));
    }
}
