import java.util.function.Consumer;

/** Promises 24 to 27: plans, on both sides of each boundary. */
final class PlanEdgesTest {
    private static final int INVALID = PalletWrapper.INVALID_ARGUMENT;
    private static final int IMPOSSIBLE = PalletWrapper.NOT_POSSIBLE;
    private static final int NOT_FOUND = PalletWrapper.NOT_FOUND;

    private PlanEdgesTest() {
    }

    static void run() {
        planned();
        plannedWithoutHindrance();
        plannedForTheNextPallet();
        plannedRefused();
        riseFor();
        riseForEachHeight();
        riseForWithoutHindrance();
        riseForRefused();
        tensionFor();
        tensionForAll();
        tensionForRefused();
        supply();
        supplyEnds();
        supplyGoesOn();
    }

    private static void none(PalletWrapper x) {
        Wrappers.some(x);
        x.drop(3);
        x.drop(1);
    }

    private static void plannedIs(PalletWrapper x, int... due) {
        for (int zone = 0; zone < due.length; zone++) {
            Checks.due("planned(" + zone + ")", x.planned(zone), due[zone]);
        }
        Checks.due("planned(" + due.length + ")", x.planned(due.length), NOT_FOUND);
    }

    private static void planned() {
        Checks.sentence(24, "Returns how many layers the lowest, or another, zone of the next pallet would get by the "
            + "program, if no turn were skipped, and there were enough film that does not break.");
        // "stay 2, up 20" on one of 70: at 0, 0 and 20.
        int[] due = {2, 2, 3, 3, 3, 1, 1};
        for (int zone = 0; zone < due.length; zone++) {
            int asked = zone;
            Checks.sentence(24, "Returns the number of layers");
            Wrappers.changesNothing("planned(" + zone + ")", Wrappers::some, x -> x.planned(asked), due[zone]);
        }
        Consumer<PalletWrapper> idle = x -> x.addPallet(50, 50, 25, 5000, 0);
        for (int zone = 0; zone <= 2; zone++) {
            int asked = zone;
            Wrappers.changesNothing("planned(" + zone + ") without steps", idle, x -> x.planned(asked), 0);
        }
        PalletWrapper x = Wrappers.withProgram("up 1, down 1, up 1, down 1, up 1, down 1");
        x.addPallet(20, 20, 250, 0, 0);
        // Upwards 1 to 200, downwards 199 to 0: in the middle 59 heights cover a zone, each six times.
        Checks.due("planned(0)", x.planned(0), 3 * 9 + 3 * 10);
        Checks.due("planned(12)", x.planned(12), 6 * 59);
        Checks.due("planned(24)", x.planned(24), 3 * 10 + 3 * 9);
        PalletWrapper stays = Wrappers.withProgram("stay 20, stay 20, stay 20, stay 20, stay 20, stay 20, stay 20, stay 20, "
            + "stay 20");
        stays.addPallet(20, 20, 10, 0, 0);
        Checks.due("planned(0)", stays.planned(0), 180);
    }

    private static void plannedWithoutHindrance() {
        Checks.sentence(24, "if no turn were skipped, and there were enough film that does not break");
        PalletWrapper x = Wrappers.withProgram("stay 2, tension 199, up 10, tension 0, down 10");
        x.addPallet(200, 200, 60, 0, 0);
        // At 0, 0, 10, 0: without any film, and nothing is borne.
        plannedIs(x, 3, 4, 4, 4, 4, 1);
        x.addRoll(100, 1);
        plannedIs(x, 3, 4, 4, 4, 4, 1);
        x.addRoll(100000, 1);
        x.weaken(1, 1, 0);
        x.weaken(1, 2, 0);
        x.set(0, 0);
        x.set(1, 0);
        plannedIs(x, 3, 4, 4, 4, 4, 1);
        Checks.due("ifWrap(1), as it comes to less", x.ifWrap(1), 1);
        Checks.due("ifWrap(2)", x.ifWrap(2), 3);
    }

    private static void plannedForTheNextPallet() {
        Checks.sentence(24, "zone of the next pallet");
        PalletWrapper x = Wrappers.withProgram("stay 1");
        x.addPallet(50, 50, 250, 0, 5);
        plannedIs(x, 1, 1, 1, 1, 1, 0, 0, 0, 0, 0, 0, 0, 0, 0, 0, 0, 0, 0, 0, 0, 0, 0, 0, 0, 0);
        x.addPallet(50, 50, 10, 0, 5);
        Checks.due("planned(24)", x.planned(24), 0);
        x.addPallet(50, 50, 20, 0, 4);
        plannedIs(x, 1, 1);
        x.drop(2);
        x.drop(0);
        plannedIs(x, 1);
        x.addPallet(50, 50, 11, 0, 0);
        plannedIs(x, 1, 1);
    }

    private static void plannedRefused() {
        Checks.sentence(24, "`zone`: number of the zone");
        Checks.sentence(24, "INVALID_ARGUMENT if zone is negative");
        Wrappers.refusesEach("planned", Wrappers::some, PalletWrapper::planned, INVALID, -1, -2, -65536,
            Integer.MIN_VALUE);
        Checks.sentence(24, "NOT_FOUND if it has not so many zones");
        Wrappers.refusesEach("planned", Wrappers::some, PalletWrapper::planned, NOT_FOUND, 7, 8, 24, 25, 26, 65536,
            Integer.MAX_VALUE);
        Checks.sentence(24, "NOT_POSSIBLE if no pallet waits");
        Wrappers.refusesEach("planned", PlanEdgesTest::none, PalletWrapper::planned, IMPOSSIBLE, 0, 1, 6, 24);
        Checks.sentence(0, "If several errors apply to a call, INVALID_ARGUMENT is returned rather than NOT_POSSIBLE, "
            + "NOT_POSSIBLE rather than LIMIT_REACHED, and LIMIT_REACHED rather than NOT_FOUND.");
        Wrappers.refusesEach("planned", PlanEdgesTest::none, PalletWrapper::planned, INVALID, -1, Integer.MIN_VALUE);
        Wrappers.refusesEach("planned", PlanEdgesTest::none, PalletWrapper::planned, IMPOSSIBLE, 7, 25,
            Integer.MAX_VALUE);
        Wrappers.refusesEach("planned", Wrappers::nothing, PalletWrapper::planned, IMPOSSIBLE, 0, Integer.MAX_VALUE);
        Wrappers.refusesEach("planned", Wrappers::nothing, PalletWrapper::planned, INVALID, -1, Integer.MIN_VALUE);
    }

    private static void riseForIs(int height, int layers, int due) {
        PalletWrapper x = new PalletWrapper();
        x.addPallet(50, 50, height, 0, 0);
        Checks.due("riseFor(" + layers + ") of " + height, x.riseFor(layers), due);
    }

    private static void riseFor() {
        Checks.sentence(25, "Finds the greatest amount s, 1 to 100, for which the program \"stay 1, up s\" would give each "
            + "zone of the next pallet at least so many layers, if no turn were skipped, and there were enough film that "
            + "does not break.");
        // No turn above 0: any amount does, but for one layer only.
        for (int height : new int[] {10, 49, 50}) {
            riseForIs(height, 1, 100);
            riseForIs(height, 2, NOT_FOUND);
            riseForIs(height, 50, NOT_FOUND);
        }
        // At 0 and 1: zone 5 has one layer.
        riseForIs(51, 1, 100);
        riseForIs(51, 2, NOT_FOUND);
        // At 0, 1, 2: zone 5 has two layers, by 2 one.
        riseForIs(52, 2, 1);
        riseForIs(52, 3, NOT_FOUND);
        // At 0, 1, .. 9: zone 5 has nine layers, the others ten.
        riseForIs(59, 9, 1);
        riseForIs(59, 10, NOT_FOUND);
        // At 0, 1, .. 10: ten for zone 0, which is not covered at 10, and for zone 5.
        riseForIs(60, 10, 1);
        riseForIs(60, 11, NOT_FOUND);
        // Zones 5 to 9 at 50; by 59 and more no difference, as 50 is the top.
        riseForIs(100, 1, 100);
        // At 0, 51, and up to 51: zone 5 from 50 to 60 is covered at 51, zone 10 too.
        riseForIs(101, 1, 100);
        riseForIs(109, 1, 100);
        // At 0 and 60: zone 5 is bare; at 59 it is not.
        riseForIs(110, 1, 59);
        riseForIs(250, 1, 59);
        riseForIs(250, 2, 9);
        riseForIs(250, 9, 1);
        riseForIs(250, 10, 1);
        riseForIs(250, 11, NOT_FOUND);
        // Two layers for zone 5 of 69: at s and at the top of 19, or twice below.
        riseForIs(69, 2, 9);
        riseForIs(55, 2, 4);
        Checks.sentence(25, "Returns the amount");
        Wrappers.changesNothing("riseFor(1)", Wrappers::some, x -> x.riseFor(1), 100);
        Wrappers.changesNothing("riseFor(2)", Wrappers::some, x -> x.riseFor(2), 9);
        Wrappers.changesNothing("riseFor(10)", Wrappers::some, x -> x.riseFor(10), 1);
    }

    /** Told by planned, for the program as a text: each height, with the greatest amount first. */
    private static void riseForEachHeight() {
        Checks.sentence(25, "Finds the greatest amount s, 1 to 100, for which the program \"stay 1, up s\" would give each "
            + "zone of the next pallet at least so many layers");
        for (int height = 10; height <= 250; height += 6) {
            int[] least = new int[101];
            for (int rise = 1; rise <= 100; rise++) {
                PalletWrapper x = Wrappers.withProgram("stay 1, up " + rise);
                x.addPallet(50, 50, height, 0, 0);
                least[rise] = x.planned(0);
                for (int zone = 1; zone < (height + 9) / 10; zone++) {
                    least[rise] = Math.min(least[rise], x.planned(zone));
                }
            }
            for (int layers = 1; layers <= 12; layers++) {
                int rise = 100;
                while (rise > 0 && least[rise] < layers) {
                    rise--;
                }
                riseForIs(height, layers, rise == 0 ? NOT_FOUND : rise);
            }
        }
    }

    private static void riseForWithoutHindrance() {
        Checks.sentence(25, "if no turn were skipped, and there were enough film that does not break");
        PalletWrapper x = Wrappers.withProgram("tension 199, stay 20, up 3");
        x.addPallet(200, 200, 60, 0, 9);
        Checks.due("riseFor(10)", x.riseFor(10), 1);
        x.addRoll(100, 1);
        x.weaken(0, 1, 0);
        x.set(1, 0);
        Checks.due("riseFor(10)", x.riseFor(10), 1);
        Checks.due("riseFor(11), as the program does not matter", x.riseFor(11), NOT_FOUND);
        Checks.sentence(25, "zone of the next pallet");
        x.addPallet(200, 200, 110, 5000, 10);
        Checks.due("riseFor(1)", x.riseFor(1), 100);
        x.addPallet(200, 200, 110, 5000, 8);
        Checks.due("riseFor(1)", x.riseFor(1), 59);
        x.addPallet(20, 20, 10, 5000, 7);
        Checks.due("riseFor(2)", x.riseFor(2), NOT_FOUND);
        // The program is what it was.
        Checks.due("count(3)", x.count(3), 3);
        Checks.due("step(0, 0)", x.step(0, 0), 3);
        Checks.due("planned(0)", x.planned(0), 20);
    }

    private static void riseForRefused() {
        Checks.sentence(25, "`layers`: 1 to 50");
        Checks.sentence(25, "INVALID_ARGUMENT if layers is out of range");
        Wrappers.refusesEach("riseFor", Wrappers::some, PalletWrapper::riseFor, INVALID, Wrappers.outside(1, 50));
        Checks.sentence(25, "NOT_FOUND if there is none");
        Wrappers.refusesEach("riseFor", Wrappers::some, PalletWrapper::riseFor, NOT_FOUND, 11, 12, 49, 50);
        Checks.sentence(25, "NOT_POSSIBLE if no pallet waits");
        Wrappers.refusesEach("riseFor", PlanEdgesTest::none, PalletWrapper::riseFor, IMPOSSIBLE, 1, 2, 10, 11, 49, 50);
        Wrappers.refusesEach("riseFor", Wrappers::nothing, PalletWrapper::riseFor, IMPOSSIBLE, 1, 50);
        Checks.sentence(0, "If several errors apply to a call, INVALID_ARGUMENT is returned rather than NOT_POSSIBLE");
        Wrappers.refusesEach("riseFor", PlanEdgesTest::none, PalletWrapper::riseFor, INVALID, 0, -1, 51,
            Integer.MIN_VALUE, Integer.MAX_VALUE);
    }

    private static void tensionForIs(int limit, int layers, int due) {
        PalletWrapper x = new PalletWrapper();
        x.addPallet(50, 50, 30, limit, 0);
        Checks.due("tensionFor(" + layers + ") of " + limit, x.tensionFor(layers), due);
    }

    private static void tensionFor() {
        Checks.sentence(26, "Finds the greatest tension t, 0 to 199, for which so many times its force is at most the corner "
            + "limit of the next pallet.");
        // Once: 280 by 199, 279 by 198, 277 by 197.
        tensionForIs(5000, 1, 199);
        tensionForIs(281, 1, 199);
        tensionForIs(280, 1, 199);
        tensionForIs(279, 1, 198);
        tensionForIs(278, 1, 197);
        tensionForIs(1, 1, 1);
        tensionForIs(0, 1, 0);
        tensionForIs(0, 500, 0);
        // Twice: 560 by 199.
        tensionForIs(560, 2, 199);
        tensionForIs(559, 2, 198);
        tensionForIs(2, 2, 1);
        tensionForIs(1, 2, 0);
        // 500 times: 4500 by 7 (9 each), 4000 by 6 (8 each); 5500 by 8 are too much.
        tensionForIs(5000, 500, 7);
        tensionForIs(4500, 500, 7);
        tensionForIs(4499, 500, 6);
        tensionForIs(4000, 500, 6);
        tensionForIs(3999, 500, 5);
        tensionForIs(500, 500, 1);
        tensionForIs(499, 500, 0);
        tensionForIs(499, 499, 1);
        tensionForIs(5000, 499, 7);
        // 17 times 280 is 4760, 18 times it is 5040.
        tensionForIs(5000, 17, 199);
        tensionForIs(4760, 17, 199);
        tensionForIs(4759, 17, 198);
        tensionForIs(5000, 18, 197);
        Checks.sentence(26, "Returns the tension");
        Wrappers.changesNothing("tensionFor(1)", Wrappers::some, x -> x.tensionFor(1), 107);
        Wrappers.changesNothing("tensionFor(3)", Wrappers::some, x -> x.tensionFor(3), 36);
        Wrappers.changesNothing("tensionFor(150)", Wrappers::some, x -> x.tensionFor(150), 1);
        Wrappers.changesNothing("tensionFor(151)", Wrappers::some, x -> x.tensionFor(151), 0);
        Wrappers.changesNothing("tensionFor(500)", Wrappers::some, x -> x.tensionFor(500), 0);
        PalletWrapper x = new PalletWrapper();
        x.addPallet(50, 50, 30, 100, 5);
        x.addPallet(50, 50, 30, 200, 5);
        Checks.due("tensionFor(1) of the next one", x.tensionFor(1), 71);
        x.addPallet(50, 50, 30, 50, 4);
        Checks.due("tensionFor(1) of the next one", x.tensionFor(1), 36);
    }

    private static void tensionForAll() {
        Checks.sentence(26, "Finds the greatest tension t, 0 to 199, for which so many times its force is at most the corner "
            + "limit of the next pallet.");
        for (int limit : new int[] {0, 1, 99, 280, 499, 500, 1409, 1410, 4999, 5000}) {
            PalletWrapper x = new PalletWrapper();
            x.addPallet(50, 50, 30, limit, 0);
            for (int layers = 1; layers <= 500; layers++) {
                int tension = 199;
                while (layers * (tension * 141 / 100) > limit) {
                    tension--;
                }
                Checks.due("tensionFor(" + layers + ") of " + limit, x.tensionFor(layers), tension);
            }
        }
    }

    private static void tensionForRefused() {
        Checks.sentence(26, "`layers`: 1 to 500");
        Checks.sentence(26, "INVALID_ARGUMENT if layers is out of range");
        Wrappers.refusesEach("tensionFor", Wrappers::some, PalletWrapper::tensionFor, INVALID, Wrappers.outside(1, 500));
        Checks.sentence(26, "NOT_POSSIBLE if no pallet waits");
        Wrappers.refusesEach("tensionFor", PlanEdgesTest::none, PalletWrapper::tensionFor, IMPOSSIBLE, 1, 2, 499, 500);
        Wrappers.refusesEach("tensionFor", Wrappers::nothing, PalletWrapper::tensionFor, IMPOSSIBLE, 1, 500);
        Checks.sentence(0, "If several errors apply to a call, INVALID_ARGUMENT is returned rather than NOT_POSSIBLE");
        Wrappers.refusesEach("tensionFor", PlanEdgesTest::none, PalletWrapper::tensionFor, INVALID, 0, -1, 501,
            Integer.MIN_VALUE, Integer.MAX_VALUE);
    }

    /** So many pallets of 50 by 50, of which each needs 100. */
    private static void pallets(PalletWrapper x, int count) {
        for (int i = 0; i < count; i++) {
            x.addPallet(50, 50, 30, 5000, 0);
        }
    }

    private static void supply() {
        Checks.sentence(27, "Returns how many waiting pallets would be wrapped, one after the other, until one is given up "
            + "or none waits.");
        Checks.sentence(27, "Returns the number of those that are not given up.");
        for (int count = 0; count <= 8; count++) {
            int waiting = count;
            Wrappers.changesNothing("supply() of " + count + " without steps", x -> pallets(x, waiting),
                PalletWrapper::supply, count);
            for (int length = 100; length <= 900; length += 100) {
                PalletWrapper x = Wrappers.withProgram("stay 1");
                pallets(x, count);
                x.addRoll(length, 1);
                Checks.due("supply() of " + count + " by " + length, x.supply(), Math.min(count, length / 100));
                x.undo();
                x.addRoll(length + 99, 1);
                Checks.due("supply() of " + count + " by " + (length + 99), x.supply(), Math.min(count, length / 100));
            }
        }
        Wrappers.changesNothing("supply()", Wrappers::some, PalletWrapper::supply, 2);
        Wrappers.changesNothing("supply()", PlanEdgesTest::none, PalletWrapper::supply, 0);
        Wrappers.changesNothing("supply()", Wrappers::nothing, PalletWrapper::supply, 0);
    }

    private static void supplyEnds() {
        Checks.sentence(27, "until one is given up or none waits");
        // The first one is given up; the second one would need no film, but it is not its turn.
        PalletWrapper x = Wrappers.withProgram("stay 1");
        x.addPallet(50, 50, 30, 5000, 0);
        x.addPallet(50, 50, 30, 0, 1);
        Checks.due("supply() without film", x.supply(), 0);
        // The one that needs no film is the next one.
        x.addPallet(50, 50, 30, 0, 0);
        x.drop(0);
        x.addPallet(50, 50, 30, 5000, 0);
        Checks.due("supply() without film", x.supply(), 1);
        // Given up for breaks in the third one, though there is film for more.
        PalletWrapper breaks = Wrappers.withProgram("stay 1");
        pallets(breaks, 5);
        breaks.addRoll(1000, 1);
        breaks.weaken(0, 250, 0);
        breaks.set(1, 0);
        Checks.due("supply() up to a break", breaks.supply(), 2);
        breaks.set(1, 1);
        Checks.due("supply() with a break that is borne", breaks.supply(), 5);
        // A smaller one behind one that is given up does not count.
        PalletWrapper smaller = Wrappers.withProgram("stay 1");
        smaller.addPallet(50, 50, 30, 5000, 0);
        smaller.addPallet(200, 200, 30, 5000, 1);
        smaller.addPallet(20, 20, 30, 5000, 2);
        smaller.addRoll(300, 1);
        smaller.addRoll(399, 1);
        Checks.due("supply() with a great one between", smaller.supply(), 1);
        smaller.addRoll(400, 1);
        Checks.due("supply() with film for the great one", smaller.supply(), 2);
        smaller.addRoll(100, 1);
        Checks.due("supply() with film for all", smaller.supply(), 3);
    }

    private static void supplyGoesOn() {
        Checks.sentence(27, "one after the other");
        // As wrap would do it, one after the other.
        PalletWrapper x = Wrappers.withProgram("stay 2, up 20");
        x.addRoll(900, 1);
        x.weaken(0, 450, 20);
        x.addRoll(700, 1);
        int[] heights = {70, 30, 90, 60, 50, 120};
        for (int i = 0; i < heights.length; i++) {
            x.addPallet(40 + 10 * i, 60, heights[i], 100 + 10 * i, i % 3);
        }
        int supply = x.supply();
        int wrapped = 0;
        while (wrapped < 6 && x.wrap() == 0) {
            wrapped++;
        }
        Checks.due("supply() is what wrap() comes to", supply, wrapped);
        Checks.due("and the film does not last", wrapped > 1 && wrapped < 6 ? 1 : 0, 1);
    }
}
