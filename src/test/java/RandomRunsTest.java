import java.util.ArrayList;
import java.util.Arrays;
import java.util.List;

/** Long runs of calls, the same ones each time, in which the program has to answer as the model does. */
final class RandomRunsTest {
    private static final int RUNS = 1500;
    private static final int MOST_CALLS = 512;
    private static final int[] EDGES = {Integer.MIN_VALUE, Integer.MAX_VALUE, -1, 0, 1, 100, 65536 + 65, -65536};

    private long seed;
    private PalletWrapper program;
    private Model model;
    private List<String> calls;
    private boolean equal;

    private RandomRunsTest(int run) {
        seed = run * 7919L + 17;
        program = new PalletWrapper();
        model = new Model();
        calls = new ArrayList<>();
        equal = true;
    }

    static void run() {
        for (int run = 0; run < RUNS; run++) {
            new RandomRunsTest(run).go(run);
        }
    }

    private void go(int run) {
        int style = run % 4;
        while (equal && calls.size() < MOST_CALLS - 110) {
            int dice = below(100);
            if (dice < 6) {
                typeProgram();
            } else if (dice < 40 - 4 * style) {
                build(style);
            } else if (dice < 90) {
                ask();
            } else {
                anything();
            }
        }
        Checks.promise(0);
        Checks.due("random run " + run, equal ? "as the model" : String.join("\n  ", calls), "as the model");
    }

    private int below(int bound) {
        seed = seed * 6364136223846793005L + 1442695040888963407L;
        return (int) Long.remainderUnsigned(seed >>> 33, bound);
    }

    private int from(int least, int most) {
        int dice = below(10);
        if (dice == 0) {
            return least;
        }
        return dice == 1 ? most : least + below(most - least + 1);
    }

    /** Mostly a value in the range, now and then one beside it. */
    private int about(int least, int most) {
        int dice = below(60);
        if (dice == 0) {
            return least - 1;
        }
        if (dice == 1) {
            return most + 1;
        }
        return dice == 2 ? EDGES[below(EDGES.length)] : from(least, most);
    }

    private void build(int style) {
        int dice = below(100);
        if (dice < 14) {
            call("addRoll", about(100, style == 0 ? 100000 : 3000), about(1, 50));
        } else if (dice < 36) {
            int roll = about(0, Math.max(0, model.rolls() - 1));
            call("weaken", roll, about(1, style == 0 ? 100000 : 2500), about(0, style == 1 ? 60 : 199));
        } else if (dice < 60) {
            call("addPallet", about(20, 200), about(20, 200), about(10, 250), about(0, style < 2 ? 5000 : 700),
                about(0, style == 1 ? 3 : 9999));
        } else if (dice < 64) {
            call("drop", about(0, 20));
        } else if (dice < 72) {
            int what = about(0, 1);
            call("set", what, what == 0 ? about(0, 500) : about(0, 20));
        } else if (dice < 80) {
            call("undo");
        } else if (dice < 84) {
            call("write");
            call("load");
        } else {
            call("wrap");
        }
    }

    private void ask() {
        switch (below(14)) {
            case 0: call("roll", about(0, 5), about(0, 5)); break;
            case 1: call("waiting", about(0, 7), about(0, 5)); break;
            case 2: call("count", about(0, 8)); break;
            case 3: call("fault"); break;
            case 4: call("step", about(0, 11), about(0, 1)); break;
            case 5: call("textAt", about(0, 99)); break;
            case 6: call("ifWrap", about(0, 9)); break;
            case 7: call("done", about(0, 5), about(0, 12)); break;
            case 8: call("zone", about(0, 5), about(0, 24), about(0, 1)); break;
            case 9: call("total", about(0, 9)); break;
            case 10: call("weight"); break;
            case 11: call("planned", about(0, 24)); break;
            case 12: call(below(2) == 0 ? "riseFor" : "tensionFor", about(1, below(3) == 0 ? 500 : 10)); break;
            default: call("supply"); break;
        }
    }

    private void anything() {
        String[] names = {"addRoll", "weaken", "roll", "addPallet", "drop", "waiting", "set", "count", "type", "step",
            "textAt", "ifWrap", "done", "zone", "total", "planned", "riseFor", "tensionFor"};
        int[] arguments = new int[5];
        for (int i = 0; i < arguments.length; i++) {
            arguments[i] = below(3) == 0 ? EDGES[below(EDGES.length)] : below(210) - 3;
        }
        call(names[below(names.length)], arguments);
    }

    private void typeProgram() {
        call("clearText");
        StringBuilder text = new StringBuilder();
        String[] kinds = {"stay ", "up ", "down ", "tension ", "stretch "};
        int[] most = {20, 100, 100, 199, 300};
        int steps = below(5) == 0 ? from(0, 14) : from(1, 6);
        for (int i = 0; i < steps; i++) {
            int kind = below(5);
            int amount = kind == 0 ? from(1, 6) : from(1, most[kind]);
            text.append(i == 0 ? "" : ", ").append(kinds[kind]).append(below(12) == 0 ? "0" : "").append(amount);
        }
        if (below(4) == 0) {
            spoil(text);
        }
        for (int i = 0; i < text.length() && i < 101 && equal; i++) {
            call("type", text.charAt(i));
        }
        call("load");
        if (below(2) == 0) {
            call("fault");
        }
    }

    private void spoil(StringBuilder text) {
        String signs = " ,0123456789staydown";
        char sign = signs.charAt(below(signs.length()));
        int place = below(text.length() + 1);
        if (place == text.length() || below(2) == 0) {
            text.insert(place, sign);
        } else if (below(2) == 0) {
            text.setCharAt(place, sign);
        } else {
            text.deleteCharAt(place);
        }
    }

    private void call(String name, int... arguments) {
        if (!equal) {
            return;
        }
        long due = model.call(name, arguments);
        long got = programCall(name, arguments);
        String told = name + Arrays.toString(arguments) + " answered " + got;
        calls.add(due == got ? told : told + ", due is " + due);
        equal = due == got;
    }

    private long programCall(String name, int[] a) {
        PalletWrapper x = program;
        switch (name) {
            case "addRoll": return x.addRoll(a[0], a[1]);
            case "weaken": return x.weaken(a[0], a[1], a[2]);
            case "roll": return x.roll(a[0], a[1]);
            case "addPallet": return x.addPallet(a[0], a[1], a[2], a[3], a[4]);
            case "drop": return x.drop(a[0]);
            case "waiting": return x.waiting(a[0], a[1]);
            case "set": return x.set(a[0], a[1]);
            case "undo": return x.undo();
            case "count": return x.count(a[0]);
            case "type": return x.type(a[0]);
            case "clearText": return x.clearText();
            case "fault": return x.fault();
            case "load": return x.load();
            case "step": return x.step(a[0], a[1]);
            case "write": return x.write();
            case "textAt": return x.textAt(a[0]);
            case "wrap": return x.wrap();
            case "ifWrap": return x.ifWrap(a[0]);
            case "done": return x.done(a[0], a[1]);
            case "zone": return x.zone(a[0], a[1], a[2]);
            case "total": return x.total(a[0]);
            case "weight": return x.weight();
            case "planned": return x.planned(a[0]);
            case "riseFor": return x.riseFor(a[0]);
            case "tensionFor": return x.tensionFor(a[0]);
            case "supply": return x.supply();
            default: throw new IllegalArgumentException(name);
        }
    }
}
