import java.util.function.Consumer;

/**
 * What the document says of a turn and of time (and promise 18), sentence by sentence, on both sides of each
 * boundary. A pallet of 50 by 50 needs 100 centimetres and a time of 5 a turn at the initial stretch.
 */
final class TurnEdgesTest {
    private static final int IMPOSSIBLE = PalletWrapper.NOT_POSSIBLE;

    private TurnEdgesTest() {
    }

    static void run() {
        forces();
        tensionUnderALimit();
        greatestForceOfTheZones();
        zonesThatAreNotCovered();
        skipped();
        lengths();
        noRoll();
        rests();
        manyRests();
        weakPlaces();
        weakPlacesFarther();
        strengths();
        firstWeakPlace();
        threading();
        threadingSettings();
        passedPlaces();
        noThreadingAtAChange();
        patience();
        mostPatience();
        breaksOfOnePallet();
        turnMade();
        palletIsDone();
        times();
        wrapReturns();
    }

    /** Checks what ifWrap tells for 0 to 9, as far as it is given, then the same of the pallet that is wrapped. */
    private static void comesTo(PalletWrapper x, String name, int... due) {
        for (int what = 0; what < due.length; what++) {
            Checks.due(name + ": ifWrap(" + what + ")", x.ifWrap(what), due[what]);
        }
        Checks.due(name + ": wrap()", x.wrap(), due[0]);
        for (int what = 0; what < due.length; what++) {
            Checks.due(name + ": done(0, " + (what + 1) + ")", x.done(0, what + 1), due[what]);
        }
    }

    private static void totalsAre(PalletWrapper x, String name, int... due) {
        for (int what = 0; what < due.length; what++) {
            Checks.due(name + ": total(" + what + ")", x.total(what), due[what]);
        }
    }

    private static void forces() {
        Checks.sentence(0, "Each zone has a force, initially 0.");
        Checks.sentence(0, "The force of a tension t is t * 141 / 100, rounded down.");
        int[][] rows = {{0, 0}, {1, 1}, {2, 2}, {3, 4}, {4, 5}, {5, 7}, {12, 16}, {13, 18}, {39, 54}, {40, 56}, {41, 57},
            {70, 98}, {71, 100}, {99, 139}, {100, 141}, {101, 142}, {141, 198}, {142, 200}, {198, 279}, {199, 280}};
        for (int[] row : rows) {
            forceIs(row[0], row[1]);
        }
        for (int tension = 0; tension <= 199; tension++) {
            int force = 0;
            while (100 * (force + 1) <= 141 * tension) {
                force++;
            }
            forceIs(tension, force);
        }
    }

    private static void forceIs(int tension, int force) {
        PalletWrapper x = Wrappers.withProgram("tension " + tension + ", stay 2");
        x.addRoll(1000, 1);
        x.addPallet(50, 50, 30, 5000, 0);
        Checks.due("ifWrap(8) by a tension of " + tension, x.ifWrap(8), 2 * force);
    }

    /** One turn by this tension under this limit: 1 if it is made, and the force. */
    private static void oneTurn(int tension, int limit, int made, int force) {
        PalletWrapper x = Wrappers.withProgram("tension " + tension + ", stay 1");
        x.addRoll(1000, 1);
        x.addPallet(50, 50, 30, limit, 0);
        String name = "a tension of " + tension + " under a limit of " + limit;
        Checks.due("ifWrap(1) by " + name, x.ifWrap(1), made);
        Checks.due("ifWrap(2) by " + name, x.ifWrap(2), 1 - made);
        Checks.due("ifWrap(8) by " + name, x.ifWrap(8), force);
    }

    private static void tensionUnderALimit() {
        Checks.sentence(0, "The tension of a turn is the greatest one, at most the set tension, for which in each zone "
            + "that it covers the force of the zone plus the force of this tension is at most the corner limit.");
        // 56 by 40; 54 by 39 (55 is none's force); 53 by 38.
        int[][] rows = {{40, 5000, 56}, {40, 57, 56}, {40, 56, 56}, {40, 55, 54}, {40, 54, 54}, {40, 53, 53}, {199, 281, 280},
            {199, 280, 280}, {199, 279, 279}, {199, 278, 277}, {100, 141, 141}, {100, 140, 139}, {100, 2, 2}, {100, 3, 2},
            {100, 4, 4}, {1, 1, 1}, {1, 5000, 1}, {2, 1, 1}, {199, 1, 1}, {0, 0, 0}, {0, 5000, 0}};
        for (int[] row : rows) {
            oneTurn(row[0], row[1], 1, row[2]);
        }
        Checks.sentence(0, "If it is 0, but the set tension is not, the turn is skipped: nothing is drawn (the present "
            + "height has changed all the same).");
        for (int tension : new int[] {1, 2, 40, 198, 199}) {
            oneTurn(tension, 0, 0, 0);
            oneTurn(tension, 1, 1, 1);
        }
        // Each limit up to one that is never reached: the greatest tension by trying them all.
        Checks.sentence(0, "The tension of a turn is the greatest one, at most the set tension, for which in each zone "
            + "that it covers the force of the zone plus the force of this tension is at most the corner limit.");
        for (int limit = 1; limit <= 300; limit++) {
            int tension = 199;
            while (tension * 141 / 100 > limit) {
                tension--;
            }
            oneTurn(199, limit, 1, tension * 141 / 100);
        }
    }

    private static void forcesAre(PalletWrapper x, String name, int... due) {
        for (int zone = 0; zone < due.length; zone++) {
            Checks.due(name + ": zone(0, " + zone + ", 1)", x.zone(0, zone, 1), due[zone]);
        }
    }

    private static void greatestForceOfTheZones() {
        Checks.sentence(0, "for which in each zone that it covers the force of the zone plus the force of this tension is "
            + "at most the corner limit");
        // At 0: 141 (zones 0 to 4). At 40: zone 4 is the only one with a force, and decides.
        int[][] rows = {{282, 141}, {281, 139}, {197, 56}, {196, 54}, {143, 2}, {142, 1}};
        for (int[] row : rows) {
            PalletWrapper x = Wrappers.withProgram("tension 100, stay 1, up 40");
            x.addRoll(5000, 1);
            x.addPallet(50, 50, 90, row[0], 0);
            comesTo(x, "under " + row[0], 0, 2, 0, 200);
            forcesAre(x, "under " + row[0], 141, 141, 141, 141, 141 + row[1], row[1], row[1], row[1], row[1]);
        }
        PalletWrapper none = Wrappers.withProgram("tension 100, stay 1, up 40");
        none.addRoll(5000, 1);
        none.addPallet(50, 50, 90, 141, 0);
        comesTo(none, "under 141", 0, 1, 1, 100);
        forcesAre(none, "under 141", 141, 141, 141, 141, 141, 0, 0, 0, 0);
        // The highest zone decides, when it is the one with the greatest force: at 40, then at 0.
        PalletWrapper down = Wrappers.withProgram("tension 100, up 40, down 40");
        down.addRoll(5000, 1);
        down.addPallet(50, 50, 90, 150, 0);
        comesTo(down, "from above", 0, 2, 0, 200);
        forcesAre(down, "from above", 9, 9, 9, 9, 150, 141, 141, 141, 141);
    }

    private static void zonesThatAreNotCovered() {
        Checks.sentence(0, "for which in each zone that it covers the force of the zone plus the force of this tension is "
            + "at most the corner limit");
        // At 0 all that is borne; at 50 none of those zones is covered; at 49 zone 4 is.
        PalletWrapper x = Wrappers.withProgram("tension 100, stay 1, up 50");
        x.addRoll(5000, 1);
        x.addPallet(50, 50, 100, 141, 0);
        comesTo(x, "at 50", 0, 2, 0, 200);
        forcesAre(x, "at 50", 141, 141, 141, 141, 141, 141, 141, 141, 141, 141);
        PalletWrapper beside = Wrappers.withProgram("tension 100, stay 1, up 49, up 1");
        beside.addRoll(5000, 1);
        beside.addPallet(50, 50, 100, 141, 0);
        comesTo(beside, "at 49", 0, 2, 1, 200);
        forcesAre(beside, "at 49", 141, 141, 141, 141, 141, 141, 141, 141, 141, 141);
        // The other way: at 50 all that is borne, at 1 zone 5 is covered, at 0 it is not.
        PalletWrapper above = Wrappers.withProgram("tension 100, up 50, down 49");
        above.addRoll(5000, 1);
        above.addPallet(50, 50, 100, 141, 0);
        comesTo(above, "from 50 to 1 and 0", 0, 2, 1, 200);
        forcesAre(above, "from 50 to 1 and 0", 141, 141, 141, 141, 141, 141, 141, 141, 141, 141);
    }

    private static void skipped() {
        Checks.sentence(0, "If it is 0, but the set tension is not, the turn is skipped: nothing is drawn (the present "
            + "height has changed all the same).");
        PalletWrapper x = Wrappers.withProgram("stay 3, up 50, down 50, up 100");
        x.addRoll(1000, 1);
        x.weaken(0, 50, 0);
        x.addPallet(50, 50, 150, 0, 0);
        comesTo(x, "a limit of 0", 0, 0, 8, 0, 0, 0, 0, 0, 0, 0);
        Checks.due("roll(0, 2)", x.roll(0, 2), 0);
        Checks.due("count(8)", x.count(8), 0);
        totalsAre(x, "a limit of 0", 0, 0, 0, 0, 0, 0, 0, 0, 8, 0);
        // Skipped at 25, but it has come there: the next turn is at 50.
        PalletWrapper height = Wrappers.withProgram("stay 1, up 25");
        height.addRoll(1000, 1);
        height.addPallet(50, 50, 100, 56, 0);
        comesTo(height, "skipped at 25", 0, 2, 1, 200, 0, 0, 0, 1, 56, 10);
        forcesAre(height, "skipped at 25", 56, 56, 56, 56, 56, 56, 56, 56, 56, 56);
        // A set tension of 0 is never skipped, also where no more is borne, nor does it break any film.
        PalletWrapper loose = Wrappers.withProgram("stay 2, tension 0, stay 2, tension 1, stay 1");
        loose.addRoll(1000, 1);
        loose.weaken(0, 150, 0);
        loose.addPallet(50, 50, 30, 56, 0);
        comesTo(loose, "a tension of 0", 0, 3, 2, 300, 0, 0, 0, 3, 56, 15);
    }

    private static void lengths() {
        Checks.sentence(0, "Otherwise it needs a length of film, 2 * (width + depth) * 100 / (100 + stretch), rounded up.");
        // Width, depth, stretch, and the length.
        int[][] rows = {{20, 20, 0, 80}, {20, 20, 1, 80}, {20, 20, 2, 79}, {20, 20, 59, 51}, {20, 20, 60, 50},
            {20, 20, 61, 50}, {20, 20, 299, 21}, {20, 20, 300, 20}, {21, 20, 300, 21}, {20, 21, 300, 21}, {21, 21, 300, 21},
            {22, 21, 300, 22}, {22, 22, 300, 22}, {200, 200, 0, 800}, {200, 199, 0, 798}, {199, 200, 0, 798},
            {200, 200, 300, 200}, {200, 200, 299, 201}, {200, 199, 300, 200}, {199, 199, 300, 199}, {51, 50, 100, 101},
            {50, 51, 100, 101}, {200, 20, 100, 220}, {20, 200, 100, 220}, {50, 50, 33, 151}, {50, 50, 34, 150}};
        for (int[] row : rows) {
            PalletWrapper x = Wrappers.withProgram("stretch " + row[2] + ", stay 1");
            x.addRoll(1000, 1);
            x.addPallet(row[0], row[1], 30, 5000, 0);
            String name = "stretch " + row[2] + " of " + row[0] + " by " + row[1];
            Checks.due("ifWrap(3), " + name, x.ifWrap(3), row[3]);
            Checks.due("wrap(), " + name, x.wrap(), 0);
            Checks.due("roll(0, 2), " + name, x.roll(0, 2), row[3]);
        }
    }

    private static void noRoll() {
        Checks.sentence(0, "If there is no roll, the pallet is given up.");
        PalletWrapper x = Wrappers.withProgram("stay 1");
        x.addPallet(50, 50, 30, 5000, 0);
        comesTo(x, "no roll", 1, 0, 0, 0, 0, 0, 0, 0, 0, 0);
        totalsAre(x, "no roll", 0, 0, 0, 0, 0, 0, 0, 0, 0, 1);
        x.addPallet(50, 50, 30, 0, 0);
        comesTo(x, "no roll, but skipped", 0, 0, 1, 0, 0, 0, 0, 0, 0, 0);
        Wrappers.program(x, "tension 0, stay 1");
        x.addPallet(50, 50, 30, 0, 0);
        comesTo(x, "no roll, and a tension of 0", 1, 0, 0, 0, 0, 0, 0, 0, 0, 0);
        Wrappers.program(x, "tension 9, stretch 9, down 9, up 9");
        x.addPallet(50, 50, 50, 5000, 0);
        comesTo(x, "no roll, but no turn", 0, 0, 0, 0, 0, 0, 0, 0, 0, 0);
        x.addPallet(50, 50, 51, 5000, 0);
        comesTo(x, "no roll, and one turn", 1, 0, 0, 0, 0, 0, 0, 0, 0, 0);
        // Given up at once, the turns that would be skipped behind that are not counted.
        Wrappers.program(x, "tension 0, stay 1, tension 9, stay 5");
        x.addPallet(50, 50, 30, 0, 0);
        comesTo(x, "no roll, and skipped later", 1, 0, 0, 0, 0, 0, 0, 0, 0, 0);
        totalsAre(x, "four of them given up", 0, 0, 0, 0, 0, 0, 0, 0, 1, 4);
    }

    private static void rests() {
        Checks.sentence(0, "If the rest of the present roll is less than the length that is needed, the rest is waste (a "
            + "tail), the roll is gone, and the next one becomes the present one (a change, also if there is no next one).");
        // The rest is just enough.
        PalletWrapper enough = Wrappers.withProgram("stay 1");
        enough.addRoll(100, 1);
        enough.addPallet(50, 50, 30, 5000, 0);
        comesTo(enough, "100 for 100", 0, 1, 0, 100, 0, 0, 0, 1, 56, 5);
        Checks.due("count(0)", enough.count(0), 1);
        Checks.due("roll(0, 2)", enough.roll(0, 2), 100);
        // One less than what is needed: 101.
        PalletWrapper less = Wrappers.withProgram("stay 1");
        less.addRoll(100, 1);
        less.addPallet(51, 50, 30, 5000, 0);
        comesTo(less, "100 for 101", 1, 0, 0, 0, 100, 0, 1, 0, 0, 60);
        Checks.due("count(0)", less.count(0), 0);
        totalsAre(less, "100 for 101", 100, 0, 100, 0, 0, 0, 1, 0, 0, 1);
        PalletWrapper one = Wrappers.withProgram("stay 2");
        one.addRoll(201, 1);
        one.addRoll(202, 2);
        one.addPallet(51, 50, 30, 5000, 0);
        comesTo(one, "101 and 100 of 201", 0, 2, 0, 202, 100, 0, 1, 2, 112, 72);
        Checks.due("done(0, 11)", one.done(0, 11), 101 + 202);
        one.addPallet(51, 50, 30, 5000, 0);
        comesTo(one, "101 of 202, then none", 1, 1, 0, 101, 0, 0, 1, 1, 56, 66);
        totalsAre(one, "both", 403, 303, 100, 0, 0, 0, 2, 3, 0, 1);
    }

    private static void manyRests() {
        Checks.sentence(0, "Then, again and again:");
        // Six rolls, all too short for a turn of 400.
        PalletWrapper x = Wrappers.withProgram("stay 1");
        for (int roll = 0; roll < 6; roll++) {
            x.addRoll(394 + roll, 1);
        }
        x.addPallet(200, 200, 30, 5000, 0);
        comesTo(x, "six that are too short", 1, 0, 0, 0, 394 + 395 + 396 + 397 + 398 + 399, 0, 6, 0, 0, 360);
        Checks.due("count(0)", x.count(0), 0);
        // Five that are too short, and one that is just long enough.
        PalletWrapper last = Wrappers.withProgram("stay 1");
        for (int roll = 0; roll < 6; roll++) {
            last.addRoll(395 + roll, 1 + roll);
        }
        last.addPallet(200, 200, 30, 5000, 0);
        comesTo(last, "five that are too short", 0, 1, 0, 400, 395 + 396 + 397 + 398 + 399, 0, 5, 1, 56, 320);
        Checks.due("count(0)", last.count(0), 1);
        Checks.due("done(0, 11)", last.done(0, 11), 2400);
        // A rest of nothing is a tail of nothing, and a change.
        PalletWrapper none = Wrappers.withProgram("stay 1");
        none.addRoll(100, 1);
        none.addPallet(50, 50, 30, 5000, 0);
        none.addPallet(50, 50, 30, 5000, 0);
        none.wrap();
        comesTo(none, "no rest", 1, 0, 0, 0, 0, 0, 1, 0, 0, 60);
        totalsAre(none, "no rest", 100, 100, 0, 0, 0, 0, 1, 1, 0, 1);
    }

    /** A first turn draws 100, then there is a weak place, which breaks in the second turn or does not. */
    private static void weakPlace(int place, int strength, boolean breaks) {
        PalletWrapper x = Wrappers.withProgram("stay 1");
        x.addRoll(1000, 1);
        x.weaken(0, place, strength);
        x.addPallet(50, 50, 30, 5000, 0);
        x.addPallet(50, 50, 30, 5000, 0);
        String name = "a weak place at " + place + ", " + strength;
        x.wrap();
        Checks.due("roll(0, 2) before, " + name, x.roll(0, 2), 100);
        if (breaks) {
            comesTo(x, name, 0, 1, 0, 100, place - 100 + 30, 1, 0, 1, 56, 45);
            totalsAre(x, name, 200 + place - 100 + 30, 200, 0, place - 100, 30, 1, 0, 2, 0, 0);
            Checks.due("roll(0, 2), " + name, x.roll(0, 2), place + 130);
        } else {
            comesTo(x, name, 0, 1, 0, 100, 0, 0, 0, 1, 56, 5);
            totalsAre(x, name, 200, 200, 0, 0, 0, 0, 0, 2, 0, 0);
            Checks.due("roll(0, 2), " + name, x.roll(0, 2), 200);
        }
    }

    private static void weakPlaces() {
        Checks.sentence(0, "if there is a weak place on the present roll that is greater than its position and at most its "
            + "position plus the length that is needed");
        weakPlace(101, 0, true);
        weakPlace(102, 0, true);
        weakPlace(150, 0, true);
        weakPlace(199, 0, true);
        weakPlace(200, 0, true);
        weakPlace(201, 0, false);
        weakPlace(202, 0, false);
        weakPlace(999, 0, false);
        Checks.sentence(0, "and whose strength is less than the tension of the turn");
        for (int place : new int[] {101, 150, 200}) {
            weakPlace(place, 38, true);
            weakPlace(place, 39, true);
            weakPlace(place, 40, false);
            weakPlace(place, 41, false);
            weakPlace(place, 199, false);
        }
        // At the position itself it is passed already: strong enough for the first turn, not for the second one.
        Checks.sentence(0, "that is greater than its position");
        PalletWrapper x = Wrappers.withProgram("tension 20, stay 1, tension 199, stay 1");
        x.addRoll(1000, 1);
        x.weaken(0, 100, 20);
        x.weaken(0, 99, 20);
        x.addPallet(50, 50, 30, 5000, 0);
        comesTo(x, "at the position", 0, 2, 0, 200, 0, 0, 0, 2, 28 + 280, 10);
        PalletWrapper next = Wrappers.withProgram("tension 20, stay 1, tension 199, stay 1");
        next.addRoll(1000, 1);
        next.weaken(0, 101, 20);
        next.addPallet(50, 50, 30, 5000, 0);
        comesTo(next, "behind the position", 0, 2, 0, 200, 31, 1, 0, 2, 28 + 280, 50);
    }

    private static void weakPlacesFarther() {
        Checks.sentence(0, "if there is a weak place on the present roll");
        // A weak place of the next roll does not break this one's film; it does when that roll is the present one.
        PalletWrapper x = Wrappers.withProgram("stay 1");
        x.addRoll(100, 1);
        x.addRoll(1000, 1);
        x.weaken(1, 60, 0);
        x.addPallet(50, 50, 30, 5000, 0);
        x.addPallet(50, 50, 30, 5000, 0);
        comesTo(x, "of the next roll", 0, 1, 0, 100, 0, 0, 0, 1, 56, 5);
        comesTo(x, "of the present roll", 0, 1, 0, 100, 60 + 30, 1, 1, 1, 56, 105);
        Checks.due("roll(0, 2)", x.roll(0, 2), 190);
        // A roll that is too short is changed, and its weak places do not matter.
        PalletWrapper tail = Wrappers.withProgram("stay 1");
        tail.addRoll(100, 1);
        tail.weaken(0, 1, 0);
        tail.weaken(0, 99, 0);
        tail.addRoll(101, 1);
        tail.addPallet(51, 50, 30, 5000, 0);
        comesTo(tail, "in a tail", 0, 1, 0, 101, 100, 0, 1, 1, 56, 66);
    }

    private static void strengths() {
        Checks.sentence(0, "and whose strength is less than the tension of the turn");
        // Tension, strength, and whether it breaks.
        int[][] rows = {{0, 0, 0}, {1, 0, 1}, {1, 1, 0}, {2, 1, 1}, {198, 198, 0}, {199, 198, 1}, {199, 199, 0},
            {199, 0, 1}, {100, 140, 0}, {100, 99, 1}, {100, 100, 0}};
        for (int[] row : rows) {
            PalletWrapper x = Wrappers.withProgram("tension " + row[0] + ", stay 1");
            x.addRoll(1000, 1);
            x.weaken(0, 50, row[1]);
            x.addPallet(50, 50, 30, 5000, 0);
            Checks.due("ifWrap(5) by " + row[0] + " of " + row[1], x.ifWrap(5), row[2]);
            Checks.due("ifWrap(4) by " + row[0] + " of " + row[1], x.ifWrap(4), 80 * row[2]);
        }
        // The tension of the turn, which a limit of 56 lowers from 199 to 40, is what counts.
        for (int strength = 39; strength <= 40; strength++) {
            PalletWrapper x = Wrappers.withProgram("tension 199, stay 1");
            x.addRoll(1000, 1);
            x.weaken(0, 50, strength);
            x.addPallet(50, 50, 30, 56, 0);
            Checks.due("ifWrap(5) under a limit, of " + strength, x.ifWrap(5), 40 - strength);
        }
    }

    private static void firstWeakPlace() {
        Checks.sentence(0, "at the first such place the film breaks.");
        Checks.sentence(0, "What was drawn up to it is waste (a piece), the position becomes this place; ");
        // Places with their strengths, the pieces, and the breaks; no threading.
        int[][] rows = {{20, 0, 80, 0, 80, 2}, {80, 0, 20, 0, 80, 2}, {20, 40, 80, 39, 80, 1}, {20, 39, 80, 40, 20, 1},
            {80, 39, 20, 40, 80, 1}, {1, 0, 2, 0, 2, 2}, {99, 0, 100, 0, 100, 2}, {100, 0, 101, 0, 101, 2},
            {100, 0, 200, 0, 200, 2}, {100, 0, 201, 0, 100, 1}};
        for (int[] row : rows) {
            PalletWrapper x = Wrappers.withProgram("stay 1");
            x.addRoll(1000, 1);
            x.set(0, 0);
            x.weaken(0, row[0], row[1]);
            x.weaken(0, row[2], row[3]);
            x.addPallet(50, 50, 30, 5000, 0);
            String name = "weak at " + row[0] + " and " + row[2];
            comesTo(x, name, 0, 1, 0, 100, row[4], row[5], 0, 1, 56, 5 + 40 * row[5]);
            totalsAre(x, name, row[4] + 100, 100, 0, row[4], 0, row[5]);
            Checks.due("roll(0, 2), " + name, x.roll(0, 2), row[4] + 100);
        }
    }

    private static void threading() {
        Checks.sentence(0, "then the film is threaded anew: as much as the setting thread, but at most the rest, is drawn "
            + "and is waste, too");
        // A roll of 150, which breaks at this place; what is threaded, and the tail, as no more than 80 are left.
        int[][] rows = {{70, 30, 50}, {99, 30, 21}, {100, 30, 20}};
        for (int[] row : rows) {
            PalletWrapper x = Wrappers.withProgram("stay 1");
            x.addRoll(150, 1);
            x.weaken(0, row[0], 0);
            x.addPallet(50, 50, 30, 5000, 0);
            comesTo(x, "weak at " + row[0], 1, 0, 0, 0, 150, 1, 1, 0, 0, 100);
            totalsAre(x, "weak at " + row[0], 150, 0, row[2], row[0], row[1], 1, 1, 0, 0, 1);
        }
        // A roll of 100: rests of 31, 30, 29 and 1 behind the break.
        int[][] ends = {{69, 30, 1}, {70, 30, 0}, {71, 29, 0}, {99, 1, 0}};
        for (int[] row : ends) {
            PalletWrapper x = Wrappers.withProgram("stay 1");
            x.addRoll(100, 1);
            x.addRoll(100, 9);
            x.weaken(0, row[0], 0);
            x.addPallet(50, 50, 30, 5000, 0);
            comesTo(x, "weak at " + row[0], 0, 1, 0, 100, 100, 1, 1, 1, 56, 105);
            totalsAre(x, "weak at " + row[0], 200, 100, row[2], row[0], row[1], 1, 1, 1, 0, 0);
            Checks.due("done(0, 11)", x.done(0, 11), 900);
        }
        // Just so much is left that the turn can be made, and one less.
        for (int length = 179; length <= 180; length++) {
            PalletWrapper x = Wrappers.withProgram("stay 1");
            x.addRoll(length, 1);
            x.weaken(0, 50, 0);
            x.addPallet(50, 50, 30, 5000, 0);
            Checks.due("wrap() of " + length, x.wrap(), 180 - length);
            Checks.due("total(2) of " + length, x.total(2), length == 179 ? 99 : 0);
        }
    }

    private static void threadingSettings() {
        Checks.sentence(0, "0 thread 0 to 500, 30");
        for (int thread : new int[] {0, 1, 29, 30, 31, 499, 500}) {
            PalletWrapper x = Wrappers.withProgram("stay 1");
            x.addRoll(1000, 1);
            x.weaken(0, 50, 0);
            x.addPallet(50, 50, 30, 5000, 0);
            x.set(0, thread);
            comesTo(x, "thread " + thread, 0, 1, 0, 100, 50 + thread, 1, 0, 1, 56, 45);
            Checks.due("total(4), thread " + thread, x.total(4), thread);
            Checks.due("roll(0, 2), thread " + thread, x.roll(0, 2), 150 + thread);
        }
        Checks.sentence(0, "but at most the rest");
        for (int length : new int[] {549, 550, 551}) {
            PalletWrapper x = Wrappers.withProgram("stay 1");
            x.addRoll(length, 1);
            x.weaken(0, 50, 0);
            x.addPallet(50, 50, 30, 5000, 0);
            x.set(0, 500);
            comesTo(x, "thread 500 of " + length, 1, 0, 0, 0, length, 1, 1, 0, 0, 100);
            totalsAre(x, "thread 500 of " + length, length, 0, length == 551 ? 1 : 0, 50, length == 549 ? 499 : 500);
        }
    }

    private static void passedPlaces() {
        Checks.sentence(0, "weak places that are passed by this do not break the film");
        // A break at 50, threaded up to 80; then 100 are needed, up to 180.
        int[][] rows = {{51, 1}, {79, 1}, {80, 1}, {81, 2}, {179, 2}, {180, 2}, {181, 1}};
        for (int[] row : rows) {
            PalletWrapper x = Wrappers.withProgram("stay 1");
            x.addRoll(1000, 1);
            x.weaken(0, 50, 0);
            x.weaken(0, row[0], 0);
            x.addPallet(50, 50, 30, 5000, 0);
            int waste = row[1] == 1 ? 80 : row[0] + 30;
            comesTo(x, "weak at 50 and " + row[0], 0, 1, 0, 100, waste, row[1], 0, 1, 56, 5 + 40 * row[1]);
            totalsAre(x, "weak at 50 and " + row[0], waste + 100, 100, 0, waste - 30 * row[1], 30 * row[1], row[1]);
        }
        PalletWrapper all = Wrappers.withProgram("stay 1");
        all.addRoll(1000, 1);
        for (int place = 50; place <= 57; place++) {
            all.weaken(0, place, 0);
        }
        all.set(0, 7);
        all.addPallet(50, 50, 30, 5000, 0);
        comesTo(all, "all passed at once", 0, 1, 0, 100, 57, 1, 0, 1, 56, 45);
        all.undo();
        all.set(0, 6);
        comesTo(all, "all but one passed at once", 0, 1, 0, 100, 57 + 6, 2, 0, 1, 56, 85);
    }

    private static void noThreadingAtAChange() {
        Checks.sentence(0, "and a change needs no threading");
        PalletWrapper x = Wrappers.withProgram("stay 2");
        x.addRoll(100, 1);
        x.addRoll(100, 1);
        x.set(0, 500);
        x.addPallet(50, 50, 30, 5000, 0);
        comesTo(x, "a change", 0, 2, 0, 200, 0, 0, 1, 2, 112, 70);
        Checks.due("total(4)", x.total(4), 0);
        Checks.due("roll(0, 2)", x.roll(0, 2), 100);
    }

    /** Weak places at 10, 20 and so on, so many; nothing is threaded. */
    private static PalletWrapper withBreaks(int breaks, int patience) {
        PalletWrapper x = Wrappers.withProgram("stay 1");
        x.addRoll(1000, 1);
        for (int i = 1; i <= breaks; i++) {
            x.weaken(0, 10 * i, 0);
        }
        x.set(0, 0);
        x.set(1, patience);
        x.addPallet(50, 50, 30, 5000, 0);
        return x;
    }

    private static void patience() {
        Checks.sentence(0, "If this pallet has had more breaks than the setting patience then, it is given up.");
        for (int patience = 0; patience <= 8; patience++) {
            for (int breaks = Math.max(0, patience - 1); breaks <= Math.min(8, patience + 2); breaks++) {
                PalletWrapper x = withBreaks(breaks, patience);
                String name = breaks + " breaks, patience " + patience;
                if (breaks <= patience) {
                    comesTo(x, name, 0, 1, 0, 100, 10 * breaks, breaks, 0, 1, 56, 5 + 40 * breaks);
                } else {
                    int had = patience + 1;
                    comesTo(x, name, 2, 0, 0, 0, 10 * had, had, 0, 0, 0, 40 * had);
                    Checks.due("roll(0, 2), " + name, x.roll(0, 2), 10 * had);
                    totalsAre(x, name, 10 * had, 0, 0, 10 * had, 0, had, 0, 0, 0, 1);
                }
            }
        }
        // It is threaded anew before the pallet is given up.
        PalletWrapper x = withBreaks(1, 0);
        x.set(0, 7);
        comesTo(x, "threaded, then given up", 2, 0, 0, 0, 17, 1, 0, 0, 0, 40);
        Checks.due("roll(0, 2)", x.roll(0, 2), 17);
        // Initially 3: the fourth break is one too many.
        Checks.sentence(0, "1 patience 0 to 20, 3");
        for (int breaks = 3; breaks <= 4; breaks++) {
            PalletWrapper initial = Wrappers.withProgram("stay 1");
            initial.addRoll(1000, 1);
            for (int i = 1; i <= breaks; i++) {
                initial.weaken(0, 40 * i, 0);
            }
            initial.addPallet(50, 50, 30, 5000, 0);
            Checks.due("wrap() with " + breaks + " breaks", initial.wrap(), breaks == 3 ? 0 : 2);
        }
    }

    /** Three rolls with 8, 8 and 4 or 5 weak places: 20 breaks are borne, 21 are not. */
    private static void mostPatience() {
        Checks.sentence(0, "If this pallet has had more breaks than the setting patience then, it is given up.");
        for (int breaks = 20; breaks <= 21; breaks++) {
            PalletWrapper x = Wrappers.withProgram("stay 1");
            for (int roll = 0; roll < 3; roll++) {
                x.addRoll(roll == 2 ? 500 : 180, 1);
                for (int weak = 1; weak <= (roll == 2 ? breaks - 16 : 8); weak++) {
                    x.weaken(roll, 10 * weak + (weak == 8 ? 1 : 0), 0);
                }
            }
            x.set(0, 0);
            x.set(1, 20);
            x.addPallet(50, 50, 30, 5000, 0);
            // A roll of 180 breaks at 10 to 70 and at 81; then 99 are left.
            int waste = 180 + 180 + 10 * (breaks - 16);
            int time = 120 + 40 * breaks;
            if (breaks == 20) {
                comesTo(x, "20 breaks", 0, 1, 0, 100, waste, 20, 2, 1, 56, time + 5);
            } else {
                comesTo(x, "21 breaks", 2, 0, 0, 0, waste, 21, 2, 0, 0, time);
            }
        }
    }

    private static void breaksOfOnePallet() {
        Checks.sentence(0, "If this pallet has had more breaks than the setting patience then, it is given up.");
        PalletWrapper x = Wrappers.withProgram("stay 1");
        x.addRoll(1000, 1);
        for (int i = 0; i < 4; i++) {
            x.weaken(0, 100 * i + 50 * i + 50, 0);
        }
        x.set(0, 0);
        x.set(1, 1);
        // One break for each of them, at 50, 200, 350 and 500: the sum does not matter.
        for (int pallet = 0; pallet < 4; pallet++) {
            x.addPallet(50, 50, 30, 5000, 0);
            comesTo(x, "pallet " + pallet, 0, 1, 0, 100, 50, 1, 0, 1, 56, 45);
        }
        // Breaks of several turns of one pallet add up.
        PalletWrapper turns = Wrappers.withProgram("stay 3");
        turns.addRoll(1000, 1);
        for (int i = 0; i < 3; i++) {
            turns.weaken(0, 150 * i + 50, 0);
        }
        turns.set(0, 0);
        turns.set(1, 2);
        turns.addPallet(50, 50, 30, 5000, 0);
        comesTo(turns, "the third break in the third turn", 2, 2, 0, 200, 150, 3, 0, 2, 112, 130);
        turns.undo();
        turns.set(1, 3);
        comesTo(turns, "with more patience", 0, 3, 0, 300, 150, 3, 0, 3, 168, 135);
    }

    private static void turnMade() {
        Checks.sentence(0, "Otherwise the turn is made: the length is drawn and is on the pallet; in each zone that is "
            + "covered there is one more layer, and the force grows by the force of the tension.");
        PalletWrapper x = Wrappers.withProgram("tension 50, stay 2, tension 10, up 30");
        x.addRoll(1000, 3);
        x.addPallet(50, 50, 90, 5000, 0);
        // At 0 twice by 70, at 30 (zones 3 to 7) and at 40 (zones 4 to 8) by 14.
        comesTo(x, "four turns", 0, 4, 0, 400, 0, 0, 0, 1, 168, 20);
        forcesAre(x, "four turns", 140, 140, 140, 154, 168, 28, 28, 28, 14);
        int[] layers = {2, 2, 2, 3, 4, 2, 2, 2, 1};
        for (int zone = 0; zone < layers.length; zone++) {
            Checks.due("zone(0, " + zone + ", 0)", x.zone(0, zone, 0), layers[zone]);
        }
        Checks.due("roll(0, 2)", x.roll(0, 2), 400);
        totalsAre(x, "four turns", 400, 400, 0, 0, 0, 0, 0, 4, 0, 0);
    }

    private static void palletIsDone() {
        Checks.sentence(0, "A pallet is done when all steps are done (with no steps at once), or given up; in both cases it "
            + "does not wait any more.");
        String[] programs = {"", "stay 1", "stay 2"};
        for (int made = 0; made <= 2; made++) {
            PalletWrapper x = Wrappers.withProgram(programs[made]);
            x.addRoll(100, 1);
            x.addPallet(50, 50, 30, 5000, 5);
            x.addPallet(50, 50, 30, 5000, 6);
            Checks.due("wrap() by '" + programs[made] + "'", x.wrap(), made == 2 ? 1 : 0);
            Checks.due("count(1)", x.count(1), 1);
            Checks.due("count(2)", x.count(2), 1);
            Checks.due("waiting(0, 0)", x.waiting(0, 0), 1);
            Checks.due("done(0, 0)", x.done(0, 0), 0);
            Checks.due("total(9)", x.total(9), made == 2 ? 1 : 0);
            x.wrap();
            Checks.due("count(1)", x.count(1), 0);
            Checks.due("count(2)", x.count(2), 2);
            Checks.due("wrap() of none", x.wrap(), IMPOSSIBLE);
            Checks.due("count(2)", x.count(2), 2);
        }
        Checks.sentence(0, "(When a pallet is given up, what is on it stays on it.)");
        PalletWrapper x = Wrappers.withProgram("stay 2, up 50");
        x.addRoll(350, 4);
        x.addPallet(50, 50, 150, 5000, 5);
        comesTo(x, "given up for want of film", 1, 3, 0, 300, 50, 0, 1, 0, 112, 75);
        forcesAre(x, "given up for want of film", 112, 112, 112, 112, 112, 56, 56, 56, 56, 56, 0, 0, 0, 0, 0);
        Checks.due("done(0, 11)", x.done(0, 11), 1200);
        Checks.due("weight()", x.weight(), 1200);
        totalsAre(x, "given up for want of film", 350, 300, 50, 0, 0, 0, 1, 3, 0, 1);
    }

    private static void times() {
        Checks.sentence(0, "A turn that is made takes 2 * (width + depth) / 40, rounded up; a change takes 60, a break 40.");
        int[][] rows = {{20, 20, 2}, {21, 20, 3}, {20, 21, 3}, {30, 29, 3}, {30, 30, 3}, {31, 30, 4}, {40, 40, 4},
            {41, 40, 5}, {199, 181, 19}, {200, 181, 20}, {199, 199, 20}, {200, 199, 20}, {200, 200, 20}, {200, 20, 11},
            {20, 200, 11}};
        for (int[] row : rows) {
            for (int stretch = 0; stretch <= 300; stretch += 150) {
                PalletWrapper x = Wrappers.withProgram("stretch " + stretch + ", stay 2");
                x.addRoll(5000, 1);
                x.addPallet(row[0], row[1], 30, 5000, 0);
                Checks.due("ifWrap(9) of " + row[0] + " by " + row[1], x.ifWrap(9), 2 * row[2]);
            }
        }
        Checks.sentence(0, "The time is initially 0.");
        PalletWrapper x = Wrappers.withProgram("stay 1");
        Checks.due("count(8)", x.count(8), 0);
        // A turn of 5; one that is skipped; a break of 40 and a turn; a change of 60, and no more film.
        x.addRoll(300, 1);
        x.weaken(0, 150, 0);
        x.addPallet(50, 50, 30, 5000, 0);
        x.addPallet(50, 50, 30, 0, 0);
        x.addPallet(50, 50, 30, 5000, 0);
        x.addPallet(50, 50, 30, 5000, 0);
        int[] times = {5, 5, 50, 110};
        for (int time : times) {
            x.wrap();
            Checks.due("count(8)", x.count(8), time);
        }
        x.undo();
        Checks.due("count(8) after undo()", x.count(8), 50);
    }

    private static void wrapReturns() {
        Checks.sentence(18, "Wraps the next pallet by the program.");
        Checks.sentence(18, "Returns 0 if all steps are done, 1 if it is given up for want of film, 2 if it is given up "
            + "after too many breaks");
        // Of two errors at once: the break that is one too many takes all the rest, and is what is told.
        PalletWrapper x = Wrappers.withProgram("stay 1");
        x.addRoll(100, 1);
        x.weaken(0, 90, 0);
        x.set(1, 0);
        x.addPallet(50, 50, 30, 5000, 0);
        comesTo(x, "the last break takes the rest", 2, 0, 0, 0, 100, 1, 0, 0, 0, 40);
        Checks.due("count(0)", x.count(0), 1);
        // With patience for it, it is the film that is wanting.
        x.undo();
        x.set(1, 1);
        comesTo(x, "the rest is taken, with patience", 1, 0, 0, 0, 100, 1, 1, 0, 0, 100);
        Checks.sentence(18, "NOT_POSSIBLE if no pallet waits");
        Consumer<PalletWrapper> none = y -> {
            Wrappers.some(y);
            y.drop(1);
            y.drop(3);
        };
        Wrappers.refused("wrap()", none, PalletWrapper::wrap, IMPOSSIBLE);
        Wrappers.refused("wrap()", Wrappers::nothing, PalletWrapper::wrap, IMPOSSIBLE);
    }
}
