/**
 * A stretch wrapper: pallets are wrapped with film by a program of steps.
 *
 * All rows and states are made in the constructor and used again, so that no call makes an object.
 */
public final class PalletWrapper {
    public static final int INVALID_ARGUMENT = -1;
    public static final int NOT_POSSIBLE = -2;
    public static final int LIMIT_REACHED = -3;
    public static final int NOT_FOUND = -4;

    private static final int MOST_ROLLS = 6;
    private static final int MOST_WEAK_PLACES = 8;
    private static final int MOST_WAITING = 8;
    private static final int MOST_STEPS = 12;
    private static final int MOST_KEPT = 6;
    private static final int MOST_STATES = 4;
    private static final int MOST_CHARACTERS = 100;
    private static final int MOST_DIGITS = 3;
    private static final int MOST_TENSION = 199;
    private static final int MOST_RISE = 100;
    private static final int MOST_ZONES = 25;

    private static final int ZONE_HEIGHT = 10;
    private static final int FILM_WIDTH = 50;
    private static final int FIRST_TENSION = 40;
    private static final int FIRST_STRETCH = 100;
    private static final int FIRST_THREADING = 30;
    private static final int FIRST_PATIENCE = 3;
    private static final int SPEED = 40;
    private static final int CHANGE_TIME = 60;
    private static final int BREAK_TIME = 40;

    private static final int STAY = 0;
    private static final int UP = 1;
    private static final int DOWN = 2;
    private static final int TENSION = 3;
    private static final int STRETCH = 4;
    private static final int KINDS = 5;
    private static final int[] LEAST_AMOUNT = {1, 1, 1, 0, 0};
    private static final int[] MOST_AMOUNT = {20, 100, 100, 199, 300};

    private static final int WRAPPED = 0;
    private static final int NO_FILM = 1;
    private static final int TOO_MANY_BREAKS = 2;

    /** What a search answers that finds nothing; no index is negative. */
    private static final int NONE = -1;
    /** Far above the rounds of any run; it only shows that the loops end. */
    private static final int MOST_ROUNDS = 1000000;

    private final State present;
    /** Where a call finds out what would happen. */
    private final State trial;
    private final State[] history;
    private int historyCount;
    private final Text text;
    /** A program that is not (yet) the present one. */
    private final Program draft;
    private final Course course;
    private final int[] layersPlanned;

    public PalletWrapper() {
        present = new State();
        trial = new State();
        history = new State[MOST_STATES];
        for (int i = 0; i < MOST_STATES; i++) {
            history[i] = new State();
        }
        historyCount = 0;
        text = new Text();
        draft = new Program();
        course = new Course();
        layersPlanned = new int[MOST_ZONES];
    }

    // ---- rolls and pallets

    public int addRoll(int length, int weight) {
        if (outside(length, 100, 100000) || outside(weight, 1, 50)) {
            return INVALID_ARGUMENT;
        }
        if (present.rollCount >= MOST_ROLLS) {
            return LIMIT_REACHED;
        }
        record();
        present.appendRoll(length, weight);
        return present.rollCount;
    }

    public int weaken(int roll, int place, int strength) {
        if (outside(roll, 0, present.rollCount - 1) || outside(strength, 0, 199)) {
            return INVALID_ARGUMENT;
        }
        if (outside(place, 1, present.rolls[roll].length - 1)) {
            return INVALID_ARGUMENT;
        }
        if (present.rolls[roll].isWeakAt(place) || place <= present.rolls[roll].position) {
            return NOT_POSSIBLE;
        }
        if (present.rolls[roll].weakCount >= MOST_WEAK_PLACES) {
            return LIMIT_REACHED;
        }
        record();
        present.rolls[roll].insertWeakPlace(place, strength);
        return present.rolls[roll].weakCount;
    }

    public int roll(int roll, int what) {
        if (outside(roll, 0, present.rollCount - 1) || outside(what, 0, 5)) {
            return INVALID_ARGUMENT;
        }
        return present.rolls[roll].property(what);
    }

    public int addPallet(int width, int depth, int height, int limit, int due) {
        if (outside(width, 20, 200) || outside(depth, 20, 200) || outside(height, 10, 250)) {
            return INVALID_ARGUMENT;
        }
        if (outside(limit, 0, 5000) || outside(due, 0, 9999)) {
            return INVALID_ARGUMENT;
        }
        if (present.waitingCount >= MOST_WAITING) {
            return LIMIT_REACHED;
        }
        record();
        Pallet pallet = present.insertPallet(due);
        pallet.measure(width, depth, height, limit);
        return pallet.number;
    }

    public int drop(int pallet) {
        if (pallet < 0) {
            return INVALID_ARGUMENT;
        }
        int index = present.indexOfPallet(pallet);
        if (index == NONE) {
            return NOT_FOUND;
        }
        record();
        present.removePallet(index);
        return present.waitingCount;
    }

    public int waiting(int index, int what) {
        if (index < 0 || outside(what, 0, 5)) {
            return INVALID_ARGUMENT;
        }
        if (index >= present.waitingCount) {
            return NOT_FOUND;
        }
        return present.pallets[index].property(what);
    }

    public int set(int what, int value) {
        if (outside(what, 0, 1) || outside(value, 0, what == 0 ? 500 : 20)) {
            return INVALID_ARGUMENT;
        }
        record();
        int previous = what == 0 ? present.threading : present.patience;
        if (what == 0) {
            present.threading = value;
        } else {
            present.patience = value;
        }
        return previous;
    }

    public int undo() {
        if (historyCount == 0) {
            return NOT_POSSIBLE;
        }
        historyCount--;
        present.copyFrom(history[historyCount]);
        return historyCount;
    }

    public int count(int what) {
        switch (what) {
            case 0: return present.rollCount;
            case 1: return present.waitingCount;
            case 2: return present.sums.pallets;
            case 3: return present.program.size;
            case 4: return present.threading;
            case 5: return present.patience;
            case 6: return historyCount;
            case 7: return text.length;
            case 8: return present.sums.time;
            default: return INVALID_ARGUMENT;
        }
    }

    // ---- the program

    public int type(int character) {
        if (outside(character, 32, 126)) {
            return INVALID_ARGUMENT;
        }
        if (text.length >= MOST_CHARACTERS) {
            return LIMIT_REACHED;
        }
        text.append((char) character);
        return text.length;
    }

    public int clearText() {
        int previous = text.length;
        text.length = 0;
        return previous;
    }

    public int fault() {
        int place = text.readInto(draft);
        return place == NONE ? NOT_FOUND : place;
    }

    public int load() {
        if (text.readInto(draft) != NONE) {
            return NOT_POSSIBLE;
        }
        record();
        present.program.copyFrom(draft);
        return present.program.size;
    }

    public int step(int index, int what) {
        if (index < 0 || outside(what, 0, 1)) {
            return INVALID_ARGUMENT;
        }
        if (index >= present.program.size) {
            return NOT_FOUND;
        }
        return what == 0 ? present.program.kinds[index] : present.program.amounts[index];
    }

    public int write() {
        text.showProgram(present.program);
        return text.length;
    }

    public int textAt(int index) {
        if (index < 0) {
            return INVALID_ARGUMENT;
        }
        if (index >= text.length) {
            return NOT_FOUND;
        }
        return text.characters[index];
    }

    // ---- wrapping

    public int wrap() {
        if (present.waitingCount == 0) {
            return NOT_POSSIBLE;
        }
        record();
        return present.wrapNext(course);
    }

    public int ifWrap(int what) {
        if (outside(what, 0, 9)) {
            return INVALID_ARGUMENT;
        }
        if (present.waitingCount == 0) {
            return NOT_POSSIBLE;
        }
        trial.copyFrom(present);
        trial.wrapNext(course);
        return trial.kept[0].property(what + 1);
    }

    public int done(int index, int what) {
        if (index < 0 || outside(what, 0, 12)) {
            return INVALID_ARGUMENT;
        }
        if (index >= present.keptCount) {
            return NOT_FOUND;
        }
        return present.kept[index].property(what);
    }

    public int zone(int index, int zone, int what) {
        if (index < 0 || zone < 0 || outside(what, 0, 1)) {
            return INVALID_ARGUMENT;
        }
        if (index >= present.keptCount || zone >= present.kept[index].zones) {
            return NOT_FOUND;
        }
        return what == 0 ? present.kept[index].layers[zone] : present.kept[index].forces[zone];
    }

    public int total(int what) {
        if (outside(what, 0, 9)) {
            return INVALID_ARGUMENT;
        }
        return present.sums.property(what);
    }

    public long weight() {
        return present.sums.weight;
    }

    // ---- plans; nothing changes

    public int planned(int zone) {
        if (zone < 0) {
            return INVALID_ARGUMENT;
        }
        if (present.waitingCount == 0) {
            return NOT_POSSIBLE;
        }
        if (zone >= present.pallets[0].zones()) {
            return NOT_FOUND;
        }
        planLayers(present.program, present.pallets[0]);
        return layersPlanned[zone];
    }

    public int riseFor(int layers) {
        if (outside(layers, 1, 50)) {
            return INVALID_ARGUMENT;
        }
        if (present.waitingCount == 0) {
            return NOT_POSSIBLE;
        }
        for (int rise = MOST_RISE; rise >= 1; rise--) {
            draft.size = 0;
            draft.append(STAY, 1);
            draft.append(UP, rise);
            planLayers(draft, present.pallets[0]);
            if (least(layersPlanned, present.pallets[0].zones()) >= layers) {
                return rise;
            }
        }
        return NOT_FOUND;
    }

    public int tensionFor(int layers) {
        if (outside(layers, 1, 500)) {
            return INVALID_ARGUMENT;
        }
        if (present.waitingCount == 0) {
            return NOT_POSSIBLE;
        }
        return greatestTension(MOST_TENSION, present.pallets[0].limit / layers);
    }

    public int supply() {
        trial.copyFrom(present);
        int wrapped = 0;
        for (int round = 0; round < MOST_WAITING && trial.waitingCount > 0; round++) {
            if (trial.wrapNext(course) != WRAPPED) {
                return wrapped;
            }
            wrapped++;
        }
        return wrapped;
    }

    // ---- what the methods share

    private static boolean outside(int value, int least, int most) {
        return value < least || value > most;
    }

    private static int roundedUp(int dividend, int divisor) {
        return divisor > 0 ? (dividend + divisor - 1) / divisor : 0;
    }

    private static int least(int[] row, int size) {
        int least = row.length > 0 ? row[0] : 0;
        for (int i = 1; i < size && i < row.length; i++) {
            least = Math.min(least, row[i]);
        }
        return least;
    }

    private static int forceOf(int tension) {
        return tension * 141 / 100;
    }

    /**
     * The greatest tension, at most the given one, whose force is at most the given one. As the force is
     * rounded down, tension * 141 may reach up to 100 * force + 99.
     */
    private static int greatestTension(int most, int force) {
        return Math.min(most, (100 * force + 99) / 141);
    }

    private static int firstZone(int height) {
        return height / ZONE_HEIGHT;
    }

    /** Behind the last zone; a zone that only touches the film's upper edge is not covered. */
    private static int zonesEnd(int height, int zones) {
        return Math.min(zones, roundedUp(height + FILM_WIDTH, ZONE_HEIGHT));
    }

    private static String nameOf(int kind) {
        switch (kind) {
            case STAY: return "stay";
            case UP: return "up";
            case DOWN: return "down";
            case TENSION: return "tension";
            default: return "stretch";
        }
    }

    /** To be called when a change is sure to succeed, and before it changes anything. */
    private void record() {
        if (historyCount == MOST_STATES) {
            State oldest = history[0];
            for (int i = 1; i < MOST_STATES; i++) {
                history[i - 1] = history[i];
            }
            history[MOST_STATES - 1] = oldest;
            historyCount--;
        }
        history[historyCount].copyFrom(present);
        historyCount++;
    }

    private void planLayers(Program program, Pallet pallet) {
        int zones = pallet.zones();
        for (int zone = 0; zone < MOST_ZONES; zone++) {
            layersPlanned[zone] = 0;
        }
        course.begin(program, pallet.top());
        for (int turn = 0; turn < MOST_ROUNDS && course.advance(); turn++) {
            int end = zonesEnd(course.height, zones);
            for (int zone = firstZone(course.height); zone < end; zone++) {
                layersPlanned[zone]++;
            }
        }
    }

    /** A roll of film; its weak places stand in the order of their places. */
    private static final class Roll {
        int length;
        int weight;
        int position;
        int weakCount;
        final int[] places;
        final int[] strengths;

        Roll() {
            places = new int[MOST_WEAK_PLACES];
            strengths = new int[MOST_WEAK_PLACES];
        }

        void begin(int newLength, int newWeight) {
            length = newLength;
            weight = newWeight;
            position = 0;
            weakCount = 0;
        }

        void copyFrom(Roll other) {
            length = other.length;
            weight = other.weight;
            position = other.position;
            weakCount = other.weakCount;
            for (int i = 0; i < weakCount; i++) {
                places[i] = other.places[i];
                strengths[i] = other.strengths[i];
            }
        }

        int rest() {
            return length - position;
        }

        boolean isWeakAt(int place) {
            for (int i = 0; i < weakCount; i++) {
                if (places[i] == place) {
                    return true;
                }
            }
            return false;
        }

        void insertWeakPlace(int place, int strength) {
            if (weakCount >= MOST_WEAK_PLACES) {
                return;
            }
            int index = weakCount;
            while (index > 0 && places[index - 1] > place) {
                places[index] = places[index - 1];
                strengths[index] = strengths[index - 1];
                index--;
            }
            places[index] = place;
            strengths[index] = strength;
            weakCount++;
        }

        /** The index of the next weak place, or the number of weak places if there is none. */
        int nextWeak() {
            int index = 0;
            while (index < weakCount && places[index] <= position) {
                index++;
            }
            return index;
        }

        int property(int what) {
            int next = nextWeak();
            switch (what) {
                case 0: return length;
                case 1: return weight;
                case 2: return position;
                case 3: return weakCount - next;
                case 4: return next < weakCount ? places[next] : NOT_FOUND;
                default: return next < weakCount ? strengths[next] : NOT_FOUND;
            }
        }

        /** The place at which the film breaks when so much of it is drawn, or NONE. */
        int breakingPlace(int needed, int tension) {
            for (int i = nextWeak(); i < weakCount && places[i] <= position + needed; i++) {
                if (strengths[i] < tension) {
                    return places[i];
                }
            }
            return NONE;
        }
    }

    private static final class Pallet {
        int number;
        int width;
        int depth;
        int height;
        int limit;
        int due;

        void measure(int newWidth, int newDepth, int newHeight, int newLimit) {
            width = newWidth;
            depth = newDepth;
            height = newHeight;
            limit = newLimit;
        }

        void copyFrom(Pallet other) {
            number = other.number;
            due = other.due;
            measure(other.width, other.depth, other.height, other.limit);
        }

        int property(int what) {
            switch (what) {
                case 0: return number;
                case 1: return width;
                case 2: return depth;
                case 3: return height;
                case 4: return limit;
                default: return due;
            }
        }

        int zones() {
            return roundedUp(height, ZONE_HEIGHT);
        }

        int top() {
            return Math.max(0, height - FILM_WIDTH);
        }

        int lengthOfTurn(int stretch) {
            return roundedUp(2 * (width + depth) * 100, 100 + stretch);
        }

        int timeOfTurn() {
            return roundedUp(2 * (width + depth), SPEED);
        }
    }

    private static final class Program {
        int size;
        final int[] kinds;
        final int[] amounts;

        Program() {
            kinds = new int[MOST_STEPS];
            amounts = new int[MOST_STEPS];
        }

        void append(int kind, int amount) {
            if (size < MOST_STEPS) {
                kinds[size] = kind;
                amounts[size] = amount;
                size++;
            }
        }

        void copyFrom(Program other) {
            size = other.size;
            for (int i = 0; i < size; i++) {
                kinds[i] = other.kinds[i];
                amounts[i] = other.amounts[i];
            }
        }
    }

    /** The way through a program, from turn to turn. */
    private static final class Course {
        private Program program;
        private int top;
        private int index;
        private int stayed;
        int height;
        int tension;
        int stretch;

        Course() {
            program = new Program();
        }

        void begin(Program newProgram, int newTop) {
            program = newProgram;
            top = newTop;
            index = 0;
            stayed = 0;
            height = 0;
            tension = FIRST_TENSION;
            stretch = FIRST_STRETCH;
        }

        /** Goes to the next turn; false if there is none any more. */
        boolean advance() {
            while (index < program.size) {
                if (takesTurn(program.kinds[index], program.amounts[index])) {
                    return true;
                }
                index++;
                stayed = 0;
            }
            return false;
        }

        private boolean takesTurn(int kind, int amount) {
            switch (kind) {
                case STAY:
                    stayed++;
                    return stayed <= amount;
                case UP:
                    if (height >= top) {
                        return false;
                    }
                    height = Math.min(height + amount, top);
                    return true;
                case DOWN:
                    if (height <= 0) {
                        return false;
                    }
                    height = Math.max(height - amount, 0);
                    return true;
                case TENSION:
                    tension = amount;
                    return false;
                default:
                    stretch = amount;
                    return false;
            }
        }
    }

    /** What came of the wrapping of a pallet. */
    private static final class Result {
        int number;
        int zones;
        int outcome;
        int made;
        int skipped;
        int onPallet;
        int tails;
        int pieces;
        int threading;
        int breaks;
        int changes;
        int time;
        int weight;
        final int[] layers;
        final int[] forces;

        Result() {
            layers = new int[MOST_ZONES];
            forces = new int[MOST_ZONES];
        }

        void begin(Pallet pallet) {
            number = pallet.number;
            zones = pallet.zones();
            outcome = WRAPPED;
            made = 0;
            skipped = 0;
            onPallet = 0;
            tails = 0;
            pieces = 0;
            threading = 0;
            breaks = 0;
            changes = 0;
            time = 0;
            weight = 0;
            for (int zone = 0; zone < zones; zone++) {
                layers[zone] = 0;
                forces[zone] = 0;
            }
        }

        void copyFrom(Result other) {
            number = other.number;
            zones = other.zones;
            outcome = other.outcome;
            made = other.made;
            skipped = other.skipped;
            onPallet = other.onPallet;
            tails = other.tails;
            pieces = other.pieces;
            threading = other.threading;
            breaks = other.breaks;
            changes = other.changes;
            time = other.time;
            weight = other.weight;
            for (int zone = 0; zone < zones; zone++) {
                layers[zone] = other.layers[zone];
                forces[zone] = other.forces[zone];
            }
        }

        int greatestForce(int from, int end) {
            int greatest = 0;
            for (int zone = from; zone < end; zone++) {
                greatest = Math.max(greatest, forces[zone]);
            }
            return greatest;
        }

        void addLayer(int height, int force) {
            int end = zonesEnd(height, zones);
            for (int zone = firstZone(height); zone < end; zone++) {
                layers[zone]++;
                forces[zone] += force;
            }
        }

        int property(int what) {
            switch (what) {
                case 0: return number;
                case 1: return outcome;
                case 2: return made;
                case 3: return skipped;
                case 4: return onPallet;
                case 5: return tails + pieces + threading;
                case 6: return breaks;
                case 7: return changes;
                case 8: return least(layers, zones);
                case 9: return greatestForce(0, zones);
                case 10: return time;
                case 11: return weight;
                default: return zones;
            }
        }
    }

    /** The sums over all pallets that are done. */
    private static final class Sums {
        int pallets;
        int givenUp;
        int made;
        int skipped;
        int onPallets;
        int tails;
        int pieces;
        int threading;
        int breaks;
        int changes;
        int time;
        long weight;

        void add(Result result) {
            pallets++;
            givenUp += result.outcome == WRAPPED ? 0 : 1;
            made += result.made;
            skipped += result.skipped;
            onPallets += result.onPallet;
            tails += result.tails;
            pieces += result.pieces;
            threading += result.threading;
            breaks += result.breaks;
            changes += result.changes;
            time += result.time;
            weight += result.weight;
        }

        void copyFrom(Sums other) {
            pallets = other.pallets;
            givenUp = other.givenUp;
            made = other.made;
            skipped = other.skipped;
            onPallets = other.onPallets;
            tails = other.tails;
            pieces = other.pieces;
            threading = other.threading;
            breaks = other.breaks;
            changes = other.changes;
            time = other.time;
            weight = other.weight;
        }

        int property(int what) {
            switch (what) {
                case 0: return onPallets + tails + pieces + threading;
                case 1: return onPallets;
                case 2: return tails;
                case 3: return pieces;
                case 4: return threading;
                case 5: return breaks;
                case 6: return changes;
                case 7: return made;
                case 8: return skipped;
                default: return givenUp;
            }
        }
    }

    /**
     * Everything but the text and the history. The rows are always full of objects, of which the first
     * ones count: what is removed goes behind those that count, and is used again from there.
     */
    private static final class State {
        final Roll[] rolls;
        int rollCount;
        /** In the order in which they would become the next one. */
        final Pallet[] pallets;
        int waitingCount;
        private int nextNumber;
        /** The latest one first. */
        final Result[] kept;
        int keptCount;
        final Program program;
        final Sums sums;
        int threading;
        int patience;

        State() {
            rolls = new Roll[MOST_ROLLS];
            for (int i = 0; i < MOST_ROLLS; i++) {
                rolls[i] = new Roll();
            }
            pallets = new Pallet[MOST_WAITING];
            for (int i = 0; i < MOST_WAITING; i++) {
                pallets[i] = new Pallet();
            }
            kept = new Result[MOST_KEPT];
            for (int i = 0; i < MOST_KEPT; i++) {
                kept[i] = new Result();
            }
            program = new Program();
            sums = new Sums();
            threading = FIRST_THREADING;
            patience = FIRST_PATIENCE;
        }

        void copyFrom(State other) {
            rollCount = other.rollCount;
            for (int i = 0; i < rollCount; i++) {
                rolls[i].copyFrom(other.rolls[i]);
            }
            waitingCount = other.waitingCount;
            for (int i = 0; i < waitingCount; i++) {
                pallets[i].copyFrom(other.pallets[i]);
            }
            nextNumber = other.nextNumber;
            keptCount = other.keptCount;
            for (int i = 0; i < keptCount; i++) {
                kept[i].copyFrom(other.kept[i]);
            }
            program.copyFrom(other.program);
            sums.copyFrom(other.sums);
            threading = other.threading;
            patience = other.patience;
        }

        void appendRoll(int length, int weight) {
            if (rollCount < MOST_ROLLS) {
                rolls[rollCount].begin(length, weight);
                rollCount++;
            }
        }

        private void removePresentRoll() {
            Roll gone = rolls[0];
            for (int i = 1; i < rollCount; i++) {
                rolls[i - 1] = rolls[i];
            }
            rollCount--;
            rolls[rollCount] = gone;
        }

        /** A new pallet has the greatest number, so it goes behind all that are due at the same time. */
        Pallet insertPallet(int due) {
            int index = Math.min(waitingCount, MOST_WAITING - 1);
            Pallet added = pallets[index];
            while (index > 0 && pallets[index - 1].due > due) {
                pallets[index] = pallets[index - 1];
                index--;
            }
            pallets[index] = added;
            waitingCount = Math.min(waitingCount + 1, MOST_WAITING);
            added.number = nextNumber;
            added.due = due;
            nextNumber++;
            return added;
        }

        int indexOfPallet(int number) {
            for (int i = 0; i < waitingCount; i++) {
                if (pallets[i].number == number) {
                    return i;
                }
            }
            return NONE;
        }

        void removePallet(int index) {
            Pallet gone = pallets[index];
            for (int i = index + 1; i < waitingCount; i++) {
                pallets[i - 1] = pallets[i];
            }
            waitingCount--;
            pallets[waitingCount] = gone;
        }

        /** Makes room for the latest result; the oldest one gives way if there is none. */
        private Result keepNewResult() {
            Result latest = kept[MOST_KEPT - 1];
            for (int i = MOST_KEPT - 1; i > 0; i--) {
                kept[i] = kept[i - 1];
            }
            kept[0] = latest;
            keptCount = Math.min(keptCount + 1, MOST_KEPT);
            return latest;
        }

        /** Wraps the next pallet, of which there must be one; its result is kept as the latest one. */
        int wrapNext(Course course) {
            Pallet pallet = pallets[0];
            Result result = keepNewResult();
            result.begin(pallet);
            course.begin(program, pallet.top());
            for (int turn = 0; turn < MOST_ROUNDS && result.outcome == WRAPPED && course.advance(); turn++) {
                turnOnce(pallet, course, result);
            }
            removePallet(0);
            sums.add(result);
            return result.outcome;
        }

        private void turnOnce(Pallet pallet, Course course, Result result) {
            int end = zonesEnd(course.height, result.zones);
            int free = pallet.limit - result.greatestForce(firstZone(course.height), end);
            int tension = greatestTension(course.tension, free);
            if (tension == 0 && course.tension != 0) {
                result.skipped++;
                return;
            }
            result.outcome = fetchFilm(pallet.lengthOfTurn(course.stretch), tension, result);
            if (result.outcome == WRAPPED) {
                result.made++;
                result.time += pallet.timeOfTurn();
                result.addLayer(course.height, forceOf(tension));
            }
        }

        /** Draws the film of a turn; answers WRAPPED, or why the pallet is given up. */
        private int fetchFilm(int needed, int tension, Result result) {
            for (int round = 0; round < MOST_ROUNDS && rollCount > 0; round++) {
                if (rolls[0].rest() < needed) {
                    changeRoll(result);
                    continue;
                }
                int place = rolls[0].breakingPlace(needed, tension);
                if (place == NONE) {
                    rolls[0].position += needed;
                    result.onPallet += needed;
                    result.weight += needed * rolls[0].weight;
                    return WRAPPED;
                }
                breakFilm(place, result);
                if (result.breaks > patience) {
                    return TOO_MANY_BREAKS;
                }
            }
            return NO_FILM;
        }

        private void changeRoll(Result result) {
            result.tails += rolls[0].rest();
            result.changes++;
            result.time += CHANGE_TIME;
            removePresentRoll();
        }

        private void breakFilm(int place, Result result) {
            Roll roll = rolls[0];
            result.pieces += place - roll.position;
            roll.position = place;
            int threaded = Math.min(threading, roll.rest());
            result.threading += threaded;
            roll.position += threaded;
            result.breaks++;
            result.time += BREAK_TIME;
        }
    }

    /** The text, and how a program is read from it and written into it. */
    private static final class Text {
        final char[] characters;
        int length;

        Text() {
            characters = new char[MOST_CHARACTERS];
        }

        void append(char character) {
            if (length < MOST_CHARACTERS) {
                characters[length] = character;
                length++;
            }
        }

        private void appendName(int kind) {
            String name = nameOf(kind);
            for (int i = 0; i < name.length(); i++) {
                append(name.charAt(i));
            }
        }

        private void appendAmount(int amount) {
            if (amount >= 100) {
                append((char) ('0' + amount / 100 % 10));
            }
            if (amount >= 10) {
                append((char) ('0' + amount / 10 % 10));
            }
            append((char) ('0' + amount % 10));
        }

        void showProgram(Program program) {
            length = 0;
            for (int i = 0; i < program.size; i++) {
                if (i > 0) {
                    append(',');
                    append(' ');
                }
                appendName(program.kinds[i]);
                append(' ');
                appendAmount(program.amounts[i]);
            }
        }

        /** Reads a program from the text; answers the place of the fault, or NONE if it is whole. */
        int readInto(Program program) {
            program.size = 0;
            if (length == 0) {
                return NONE;
            }
            int start = 0;
            for (int read = 0; read < MOST_STEPS; read++) {
                int end = readStep(start, program);
                if (end == length) {
                    return NONE;
                }
                if (end == NONE || !isFollowedByStep(end)) {
                    return start;
                }
                start = end + 2;
            }
            return start;
        }

        private boolean isFollowedByStep(int end) {
            return end + 2 < length && characters[end] == ',' && characters[end + 1] == ' ';
        }

        /** Reads the step that starts there; answers the index behind it, or NONE. */
        private int readStep(int start, Program program) {
            for (int kind = 0; kind < KINDS; kind++) {
                int amountStart = behindName(kind, start);
                if (amountStart != NONE) {
                    return readAmount(kind, amountStart, program);
                }
            }
            return NONE;
        }

        private int behindName(int kind, int start) {
            String name = nameOf(kind);
            int end = start + name.length();
            if (end >= length || characters[end] != ' ') {
                return NONE;
            }
            for (int i = 0; i < name.length(); i++) {
                if (characters[start + i] != name.charAt(i)) {
                    return NONE;
                }
            }
            return end + 1;
        }

        private int readAmount(int kind, int start, Program program) {
            int amount = 0;
            int end = start;
            while (end < length && end < start + MOST_DIGITS && isDigit(characters[end])) {
                amount = amount * 10 + (characters[end] - '0');
                end++;
            }
            if (end == start || outside(amount, LEAST_AMOUNT[kind], MOST_AMOUNT[kind])) {
                return NONE;
            }
            program.append(kind, amount);
            return end;
        }

        private static boolean isDigit(char character) {
            return character >= '0' && character <= '9';
        }
    }
}
