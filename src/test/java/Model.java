import java.util.ArrayDeque;
import java.util.ArrayList;
import java.util.Arrays;
import java.util.Comparator;
import java.util.List;
import java.util.TreeMap;
import java.util.regex.Matcher;
import java.util.regex.Pattern;

/**
 * The document once more, in another and slower form that follows its words: the random runs compare
 * the program with it.
 */
final class Model {
    private static final String[] KINDS = {"stay", "up", "down", "tension", "stretch"};
    private static final int[][] AMOUNTS = {{1, 20}, {1, 100}, {1, 100}, {0, 199}, {0, 300}};
    private static final Pattern STEP = Pattern.compile("(stay|up|down|tension|stretch) ([0-9]{1,3})");

    private record Pallet(int number, int width, int depth, int height, int limit, int due) {
        int zones() {
            return (int) Math.ceil(height / 10.0);
        }

        int what(int what) {
            return new int[] {number, width, depth, height, limit, due}[what];
        }
    }

    private record Step(int kind, int amount) {
    }

    private record Turn(int height, int tension, int stretch) {
        boolean covers(int zone) {
            return 10 * zone + 10 > height && 10 * zone < height + 50;
        }
    }

    private static final class Roll {
        int length;
        int weight;
        int position;
        TreeMap<Integer, Integer> weak = new TreeMap<>();

        Roll copy() {
            Roll copy = new Roll();
            copy.length = length;
            copy.weight = weight;
            copy.position = position;
            copy.weak.putAll(weak);
            return copy;
        }
    }

    /** Not changed any more once the pallet is done. */
    private static final class Done {
        Pallet pallet;
        int outcome;
        int made;
        int skipped;
        int onPallet;
        int tails;
        int pieces;
        int threading;
        int breaks;
        int changes;
        int time;
        int weight;
        int[] layers;
        int[] forces;

        int what(int what) {
            return new int[] {pallet.number(), outcome, made, skipped, onPallet, tails + pieces + threading, breaks,
                changes, Arrays.stream(layers).min().getAsInt(), Arrays.stream(forces).max().getAsInt(), time, weight,
                layers.length}[what];
        }
    }

    private static final class World {
        List<Roll> rolls = new ArrayList<>();
        List<Pallet> waiting = new ArrayList<>();
        List<Step> program = List.of();
        List<Done> done = new ArrayList<>();
        int[] settings = {30, 3};
        int numbers = 0;

        World copy() {
            World copy = new World();
            for (Roll roll : rolls) {
                copy.rolls.add(roll.copy());
            }
            copy.waiting.addAll(waiting);
            copy.program = program;
            copy.done.addAll(done);
            copy.settings = settings.clone();
            copy.numbers = numbers;
            return copy;
        }

        Pallet next() {
            return waiting.stream().min(Comparator.comparingInt(Pallet::due).thenComparingInt(Pallet::number)).get();
        }
    }

    private World world = new World();
    private final ArrayDeque<World> history = new ArrayDeque<>();
    private String text = "";

    private static boolean in(int value, int least, int most) {
        return value >= least && value <= most;
    }

    private static int ceil(int dividend, int divisor) {
        return dividend / divisor + (dividend % divisor == 0 ? 0 : 1);
    }

    private static int force(int tension) {
        return tension * 141 / 100;
    }

    private void change() {
        history.addLast(world.copy());
        if (history.size() == 5) {
            history.removeFirst();
        }
    }

    /** Answers the call of the method with that name. */
    long call(String name, int[] a) {
        switch (name) {
            case "addRoll": return addRoll(a[0], a[1]);
            case "weaken": return weaken(a[0], a[1], a[2]);
            case "roll": return roll(a[0], a[1]);
            case "addPallet": return addPallet(a[0], a[1], a[2], a[3], a[4]);
            case "drop": return drop(a[0]);
            case "waiting": return waiting(a[0], a[1]);
            case "set": return set(a[0], a[1]);
            case "undo": return undo();
            case "count": return count(a[0]);
            case "type": return type(a[0]);
            case "clearText": return clearText();
            case "fault": return faultOf(text) < 0 ? -4 : faultOf(text);
            case "load": return load();
            case "step": return step(a[0], a[1]);
            case "write": return write();
            case "textAt": return a[0] < 0 ? -1 : a[0] >= text.length() ? -4 : text.charAt(a[0]);
            case "wrap": return wrap();
            case "ifWrap": return ifWrap(a[0]);
            case "done": return done(a[0], a[1]);
            case "zone": return zone(a[0], a[1], a[2]);
            case "total": return total(a[0]);
            case "weight": return world.done.stream().mapToLong(d -> d.weight).sum();
            case "planned": return planned(a[0]);
            case "riseFor": return riseFor(a[0]);
            case "tensionFor": return tensionFor(a[0]);
            case "supply": return supply();
            default: throw new IllegalArgumentException(name);
        }
    }

    int rolls() {
        return world.rolls.size();
    }

    private int addRoll(int length, int weight) {
        if (!in(length, 100, 100000) || !in(weight, 1, 50)) {
            return -1;
        }
        if (world.rolls.size() == 6) {
            return -3;
        }
        change();
        Roll roll = new Roll();
        roll.length = length;
        roll.weight = weight;
        world.rolls.add(roll);
        return world.rolls.size();
    }

    private int weaken(int index, int place, int strength) {
        if (!in(index, 0, world.rolls.size() - 1) || !in(strength, 0, 199)) {
            return -1;
        }
        Roll roll = world.rolls.get(index);
        if (!(place > 0 && place < roll.length)) {
            return -1;
        }
        if (roll.weak.containsKey(place) || place <= roll.position) {
            return -2;
        }
        if (roll.weak.size() == 8) {
            return -3;
        }
        change();
        roll.weak.put(place, strength);
        return roll.weak.size();
    }

    private int roll(int index, int what) {
        if (!in(index, 0, world.rolls.size() - 1) || !in(what, 0, 5)) {
            return -1;
        }
        Roll roll = world.rolls.get(index);
        TreeMap<Integer, Integer> behind = new TreeMap<>(roll.weak.tailMap(roll.position, false));
        switch (what) {
            case 0: return roll.length;
            case 1: return roll.weight;
            case 2: return roll.position;
            case 3: return behind.size();
            case 4: return behind.isEmpty() ? -4 : behind.firstKey();
            default: return behind.isEmpty() ? -4 : behind.firstEntry().getValue();
        }
    }

    private int addPallet(int width, int depth, int height, int limit, int due) {
        if (!in(width, 20, 200) || !in(depth, 20, 200) || !in(height, 10, 250) || !in(limit, 0, 5000)
                || !in(due, 0, 9999)) {
            return -1;
        }
        if (world.waiting.size() == 8) {
            return -3;
        }
        change();
        world.waiting.add(new Pallet(world.numbers, width, depth, height, limit, due));
        world.numbers++;
        return world.numbers - 1;
    }

    private int drop(int number) {
        if (number < 0) {
            return -1;
        }
        if (world.waiting.stream().noneMatch(p -> p.number() == number)) {
            return -4;
        }
        change();
        world.waiting.removeIf(p -> p.number() == number);
        return world.waiting.size();
    }

    private int waiting(int index, int what) {
        if (index < 0 || !in(what, 0, 5)) {
            return -1;
        }
        if (index >= world.waiting.size()) {
            return -4;
        }
        World rest = world.copy();
        for (int i = 0; i < index; i++) {
            rest.waiting.remove(rest.next());
        }
        return rest.next().what(what);
    }

    private int set(int what, int value) {
        if (!in(what, 0, 1) || !in(value, 0, what == 0 ? 500 : 20)) {
            return -1;
        }
        change();
        int previous = world.settings[what];
        world.settings[what] = value;
        return previous;
    }

    private int undo() {
        if (history.isEmpty()) {
            return -2;
        }
        world = history.removeLast();
        return history.size();
    }

    private int count(int what) {
        if (!in(what, 0, 8)) {
            return -1;
        }
        int time = world.done.stream().mapToInt(d -> d.time).sum();
        return new int[] {world.rolls.size(), world.waiting.size(), world.done.size(), world.program.size(),
            world.settings[0], world.settings[1], history.size(), text.length(), time}[what];
    }

    private int type(int character) {
        if (!in(character, 32, 126)) {
            return -1;
        }
        if (text.length() == 100) {
            return -3;
        }
        text += (char) character;
        return text.length();
    }

    private int clearText() {
        int length = text.length();
        text = "";
        return length;
    }

    /** The fault, or a negative number. */
    private static int faultOf(String text) {
        if (text.isEmpty()) {
            return -1;
        }
        String[] steps = text.split(", ", -1);
        int start = 0;
        for (int i = 0; i < steps.length; i++) {
            Matcher matcher = STEP.matcher(steps[i]);
            boolean whole = matcher.matches() && i < 12;
            if (whole) {
                int[] range = AMOUNTS[Arrays.asList(KINDS).indexOf(matcher.group(1))];
                whole = in(Integer.parseInt(matcher.group(2)), range[0], range[1]);
            }
            boolean ended = i == steps.length - 1;
            boolean nothingFollows = !ended && start + steps[i].length() + 2 == text.length();
            if (!whole || nothingFollows) {
                return start;
            }
            start += steps[i].length() + 2;
        }
        return -1;
    }

    private static List<Step> read(String text) {
        List<Step> steps = new ArrayList<>();
        Matcher matcher = STEP.matcher(text);
        while (matcher.find()) {
            steps.add(new Step(Arrays.asList(KINDS).indexOf(matcher.group(1)), Integer.parseInt(matcher.group(2))));
        }
        return steps;
    }

    private int load() {
        if (faultOf(text) >= 0) {
            return -2;
        }
        change();
        world.program = read(text);
        return world.program.size();
    }

    private int step(int index, int what) {
        if (index < 0 || !in(what, 0, 1)) {
            return -1;
        }
        if (index >= world.program.size()) {
            return -4;
        }
        Step step = world.program.get(index);
        return what == 0 ? step.kind() : step.amount();
    }

    private int write() {
        List<String> steps = new ArrayList<>();
        for (Step step : world.program) {
            steps.add(KINDS[step.kind()] + " " + step.amount());
        }
        text = String.join(", ", steps);
        text = text.substring(0, Math.min(100, text.length()));
        return text.length();
    }

    private static List<Turn> turns(List<Step> program, Pallet pallet) {
        List<Turn> turns = new ArrayList<>();
        int height = 0;
        int tension = 40;
        int stretch = 100;
        int top = pallet.height() > 50 ? pallet.height() - 50 : 0;
        for (Step step : program) {
            int amount = step.amount();
            if (step.kind() == 3) {
                tension = amount;
            } else if (step.kind() == 4) {
                stretch = amount;
            } else if (step.kind() == 0) {
                for (int i = 0; i < amount; i++) {
                    turns.add(new Turn(height, tension, stretch));
                }
            } else {
                while (step.kind() == 1 ? height < top : height > 0) {
                    height = step.kind() == 1 ? Math.min(top, height + amount) : Math.max(0, height - amount);
                    turns.add(new Turn(height, tension, stretch));
                }
            }
        }
        return turns;
    }

    private static Done wrapNext(World world) {
        Done done = new Done();
        done.pallet = world.next();
        done.layers = new int[done.pallet.zones()];
        done.forces = new int[done.pallet.zones()];
        for (Turn turn : turns(world.program, done.pallet)) {
            if (done.outcome == 0) {
                makeTurn(world, done, turn);
            }
        }
        world.waiting.remove(done.pallet);
        world.done.add(done);
        return done;
    }

    private static boolean bears(Done done, Turn turn, int tension) {
        for (int zone = 0; zone < done.forces.length; zone++) {
            if (turn.covers(zone) && done.forces[zone] + force(tension) > done.pallet.limit()) {
                return false;
            }
        }
        return true;
    }

    private static void makeTurn(World world, Done done, Turn turn) {
        int tension = turn.tension();
        while (!bears(done, turn, tension)) {
            tension--;
        }
        if (tension == 0 && turn.tension() != 0) {
            done.skipped++;
            return;
        }
        int around = 2 * (done.pallet.width() + done.pallet.depth());
        int length = ceil(around * 100, 100 + turn.stretch());
        while (true) {
            if (world.rolls.isEmpty()) {
                done.outcome = 1;
                return;
            }
            Roll roll = world.rolls.get(0);
            if (roll.length - roll.position < length) {
                done.tails += roll.length - roll.position;
                done.changes++;
                done.time += 60;
                world.rolls.remove(0);
                continue;
            }
            int place = roll.position + 1;
            while (place <= roll.position + length && roll.weak.getOrDefault(place, 1000) >= tension) {
                place++;
            }
            if (place > roll.position + length) {
                lay(done, turn, tension, length, roll);
                done.time += ceil(around, 40);
                return;
            }
            done.pieces += place - roll.position;
            int threaded = Math.min(world.settings[0], roll.length - place);
            done.threading += threaded;
            roll.position = place + threaded;
            done.breaks++;
            done.time += 40;
            if (done.breaks > world.settings[1]) {
                done.outcome = 2;
                return;
            }
        }
    }

    private static void lay(Done done, Turn turn, int tension, int length, Roll roll) {
        roll.position += length;
        done.made++;
        done.onPallet += length;
        done.weight += length * roll.weight;
        for (int zone = 0; zone < done.layers.length; zone++) {
            if (turn.covers(zone)) {
                done.layers[zone]++;
                done.forces[zone] += force(tension);
            }
        }
    }

    private int wrap() {
        if (world.waiting.isEmpty()) {
            return -2;
        }
        change();
        return wrapNext(world).outcome;
    }

    private int ifWrap(int what) {
        if (!in(what, 0, 9)) {
            return -1;
        }
        return world.waiting.isEmpty() ? -2 : wrapNext(world.copy()).what(what + 1);
    }

    private Done kept(int index) {
        return index < Math.min(6, world.done.size()) ? world.done.get(world.done.size() - 1 - index) : null;
    }

    private int done(int index, int what) {
        if (index < 0 || !in(what, 0, 12)) {
            return -1;
        }
        return kept(index) == null ? -4 : kept(index).what(what);
    }

    private int zone(int index, int zone, int what) {
        if (index < 0 || zone < 0 || !in(what, 0, 1)) {
            return -1;
        }
        if (kept(index) == null || zone >= kept(index).layers.length) {
            return -4;
        }
        return what == 0 ? kept(index).layers[zone] : kept(index).forces[zone];
    }

    private int total(int what) {
        if (!in(what, 0, 9)) {
            return -1;
        }
        int total = 0;
        for (Done d : world.done) {
            int waste = d.tails + d.pieces + d.threading;
            total += new int[] {d.onPallet + waste, d.onPallet, d.tails, d.pieces, d.threading, d.breaks, d.changes,
                d.made, d.skipped, d.outcome > 0 ? 1 : 0}[what];
        }
        return total;
    }

    private static int layers(List<Turn> turns, int zone) {
        return (int) turns.stream().filter(t -> t.covers(zone)).count();
    }

    private int planned(int zone) {
        if (zone < 0) {
            return -1;
        }
        if (world.waiting.isEmpty()) {
            return -2;
        }
        Pallet next = world.next();
        return zone >= next.zones() ? -4 : layers(turns(world.program, next), zone);
    }

    private int riseFor(int layers) {
        if (!in(layers, 1, 50)) {
            return -1;
        }
        if (world.waiting.isEmpty()) {
            return -2;
        }
        int best = -4;
        for (int rise = 1; rise <= 100; rise++) {
            List<Turn> turns = turns(List.of(new Step(0, 1), new Step(1, rise)), world.next());
            boolean enough = true;
            for (int zone = 0; zone < world.next().zones(); zone++) {
                enough &= layers(turns, zone) >= layers;
            }
            best = enough ? rise : best;
        }
        return best;
    }

    private int tensionFor(int layers) {
        if (!in(layers, 1, 500)) {
            return -1;
        }
        if (world.waiting.isEmpty()) {
            return -2;
        }
        int best = 0;
        for (int tension = 0; tension <= 199; tension++) {
            best = layers * force(tension) <= world.next().limit() ? tension : best;
        }
        return best;
    }

    private int supply() {
        World copy = world.copy();
        int wrapped = 0;
        while (!copy.waiting.isEmpty() && wrapNext(copy).outcome == 0) {
            wrapped++;
        }
        return wrapped;
    }
}
