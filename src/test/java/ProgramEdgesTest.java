/** What the document says of the program and its steps, sentence by sentence, on both sides of each boundary. */
final class ProgramEdgesTest {
    private static final int INVALID = PalletWrapper.INVALID_ARGUMENT;
    private static final int NOT_FOUND = PalletWrapper.NOT_FOUND;

    private ProgramEdgesTest() {
    }

    static void run() {
        stay();
        upToTheTop();
        downToTheFloor();
        top();
        tensionAndStretch();
        begun();
        covered();
        noSteps();
        whichStep();
    }

    /** Whether there is some height in the zone that is above y and below y + 50; tried out by quarters. */
    private static boolean covers(int y, int zone) {
        for (int quarter = 40 * zone; quarter <= 40 * zone + 40; quarter++) {
            if (quarter > 4 * y && quarter < 4 * y + 200) {
                return true;
            }
        }
        return false;
    }

    /** The program makes turns at these heights on a pallet that is so high: told by plans, and by wrapping. */
    private static void turnsAt(String program, int height, int... heights) {
        PalletWrapper x = Wrappers.withProgram(program);
        x.addRoll(100000, 1);
        x.addPallet(20, 20, height, 5000, 0);
        int zones = (height + 9) / 10;
        int[] layers = new int[zones];
        for (int y : heights) {
            for (int zone = 0; zone < zones; zone++) {
                layers[zone] += covers(y, zone) ? 1 : 0;
            }
        }
        String name = " by '" + program + "' of a height of " + height;
        for (int zone = 0; zone < zones; zone++) {
            Checks.due("planned(" + zone + ")" + name, x.planned(zone), layers[zone]);
        }
        Checks.due("ifWrap(1)" + name, x.ifWrap(1), heights.length);
        Checks.due("wrap()" + name, x.wrap(), 0);
        Checks.due("done(0, 2)" + name, x.done(0, 2), heights.length);
        for (int zone = 0; zone < zones; zone++) {
            Checks.due("zone(0, " + zone + ", 0)" + name, x.zone(0, zone, 0), layers[zone]);
        }
    }

    /** So many heights from the first one, each by so much more than the one before. */
    private static int[] heights(int count, int first, int by) {
        int[] heights = new int[count];
        for (int i = 0; i < count; i++) {
            heights[i] = first + i * by;
        }
        return heights;
    }

    private static void stay() {
        Checks.sentence(0, "stay n (1 to 20) makes n turns at the present height");
        turnsAt("stay 1", 100, 0);
        turnsAt("stay 2", 100, 0, 0);
        turnsAt("stay 19", 100, heights(19, 0, 0));
        turnsAt("stay 20", 100, heights(20, 0, 0));
        turnsAt("stay 20, stay 20, stay 1", 100, heights(41, 0, 0));
        turnsAt("up 100, stay 3", 100, 50, 50, 50, 50);
        turnsAt("up 30, stay 1, down 20, stay 2", 90, 30, 40, 40, 20, 0, 0, 0);
        turnsAt("stay 3", 10, 0, 0, 0);
    }

    private static void upToTheTop() {
        Checks.sentence(0, "up s (1 to 100) as long as the present height is less than the top: it grows by s, but not "
            + "above the top, and a turn is made");
        turnsAt("up 1", 53, 1, 2, 3);
        turnsAt("up 1", 250, heights(200, 1, 1));
        turnsAt("up 100", 250, 100, 200);
        turnsAt("up 100", 249, 100, 199);
        turnsAt("up 100", 151, 100, 101);
        turnsAt("up 100", 150, 100);
        turnsAt("up 100", 149, 99);
        turnsAt("up 99", 150, 99, 100);
        turnsAt("up 99", 149, 99);
        turnsAt("up 99", 148, 98);
        turnsAt("up 10", 79, 10, 20, 29);
        turnsAt("up 10", 80, 10, 20, 30);
        turnsAt("up 10", 81, 10, 20, 30, 31);
        // At the top there is no turn; one below it there is one.
        turnsAt("up 30, up 1", 80, 30);
        turnsAt("up 30, up 100", 80, 30);
        turnsAt("up 30, down 29, up 100", 80, 30, 1, 0, 30);
        turnsAt("up 29, down 20, up 29", 80, 29, 30, 10, 0, 29, 30);
    }

    private static void downToTheFloor() {
        Checks.sentence(0, "down s (1 to 100) as long as the present height is greater than 0: it decreases by s, but "
            + "not below 0, and a turn is made");
        turnsAt("down 1", 250);
        turnsAt("down 100", 250);
        turnsAt("down 100, stay 1", 250, 0);
        turnsAt("up 50, down 49", 100, 50, 1, 0);
        turnsAt("up 50, down 50", 100, 50, 0);
        turnsAt("up 50, down 51", 100, 50, 0);
        turnsAt("up 50, down 100", 100, 50, 0);
        turnsAt("up 3, down 1", 53, 3, 2, 1, 0);
        turnsAt("up 50, down 49, up 20", 100, 50, 1, 0, 20, 40, 50);
        turnsAt("up 50, down 100, up 9, down 100, up 29", 100, 50, 0, 9, 18, 27, 36, 45, 50, 0, 29, 50);
        turnsAt("up 1, down 100", 51, 1, 0);
        turnsAt("up 100, down 100", 250, 100, 200, 100, 0);
        turnsAt("up 100, down 99", 250, 100, 200, 101, 2, 0);
        turnsAt("up 100, down 100, down 1", 250, 100, 200, 100, 0);
        turnsAt("up 100, down 100, up 100", 250, 100, 200, 100, 0, 100, 200);
    }

    private static void top() {
        Checks.sentence(0, "the top is the height of the pallet minus 50, but at least 0");
        for (int height : new int[] {10, 11, 40, 49, 50}) {
            turnsAt("up 1", height);
            turnsAt("up 100", height);
            turnsAt("down 1, up 1, down 1", height);
            turnsAt("up 1, stay 1", height, 0);
        }
        turnsAt("up 1", 51, 1);
        turnsAt("up 100", 51, 1);
        turnsAt("up 1", 52, 1, 2);
        turnsAt("up 2", 52, 2);
        turnsAt("up 2", 53, 2, 3);
        turnsAt("up 100, stay 1, down 100, stay 1", 60, 10, 10, 0, 0);
    }

    /** Checks the number of turns, the length on the pallet and the greatest force, of one of 20 by 20. */
    private static void comesTo(String program, int turns, int length, int force) {
        PalletWrapper x = Wrappers.withProgram(program);
        x.addRoll(100000, 1);
        x.addPallet(20, 20, 100, 5000, 0);
        Checks.due("ifWrap(1) of '" + program + "'", x.ifWrap(1), turns);
        Checks.due("ifWrap(3) of '" + program + "'", x.ifWrap(3), length);
        Checks.due("ifWrap(8) of '" + program + "'", x.ifWrap(8), force);
    }

    private static void tensionAndStretch() {
        Checks.sentence(0, "tension t (0 to 199) sets the tension");
        comesTo("tension 0, stay 1", 1, 40, 0);
        comesTo("tension 1, stay 1", 1, 40, 1);
        comesTo("tension 198, stay 1", 1, 40, 279);
        comesTo("tension 199, stay 1", 1, 40, 280);
        comesTo("tension 199, tension 1, stay 2", 2, 80, 2);
        comesTo("stay 1, tension 199", 1, 40, 56);
        comesTo("stay 1, tension 100, stay 1", 2, 80, 56 + 141);
        Checks.sentence(0, "stretch p (0 to 300) sets the stretch");
        comesTo("stretch 0, stay 1", 1, 80, 56);
        comesTo("stretch 1, stay 1", 1, 80, 56);
        comesTo("stretch 2, stay 1", 1, 79, 56);
        comesTo("stretch 299, stay 1", 1, 21, 56);
        comesTo("stretch 300, stay 1", 1, 20, 56);
        comesTo("stretch 300, stretch 0, stay 2", 2, 160, 112);
        comesTo("stay 1, stretch 0", 1, 40, 56);
        comesTo("stay 1, stretch 0, stay 1, tension 0, stay 1", 3, 200, 112);
        // Steps of these kinds make no turn.
        comesTo("tension 100, stretch 100", 0, 0, 0);
    }

    private static void begun() {
        Checks.sentence(0, "When a pallet is begun, the present height is 0, the tension 40, the stretch 100.");
        PalletWrapper x = Wrappers.withProgram("stay 1, up 100, tension 199, stretch 300, stay 1");
        x.addRoll(100000, 1);
        for (int pallet = 0; pallet < 3; pallet++) {
            x.addPallet(20, 20, 60, 5000, 0);
        }
        for (int pallet = 0; pallet < 3; pallet++) {
            // At 0 and at 10 by a tension of 40 (56), then at 10 by one of 199 (280).
            Checks.due("planned(0)", x.planned(0), 1);
            Checks.due("planned(5)", x.planned(5), 2);
            Checks.due("supply()", x.supply(), 3 - pallet);
            Checks.due("ifWrap(3)", x.ifWrap(3), 40 + 40 + 20);
            Checks.due("wrap()", x.wrap(), 0);
            Checks.due("done(0, 4)", x.done(0, 4), 40 + 40 + 20);
            Checks.due("zone(0, 0, 1)", x.zone(0, 0, 1), 56);
            Checks.due("zone(0, 1, 1)", x.zone(0, 1, 1), 56 + 56 + 280);
            Checks.due("zone(0, 5, 1)", x.zone(0, 5, 1), 56 + 280);
        }
        begunAfterOneThatIsGivenUp();
    }

    private static void begunAfterOneThatIsGivenUp() {
        Checks.sentence(0, "When a pallet is begun, the present height is 0, the tension 40, the stretch 100.");
        PalletWrapper x = Wrappers.withProgram("stay 1, tension 199, stretch 0, up 20");
        x.addRoll(130, 1);
        x.addPallet(20, 20, 100, 5000, 0);
        x.addPallet(20, 20, 100, 5000, 0);
        // 40 at 0, 80 at 20; then 10 are left, and it is given up in the middle of a step.
        Checks.due("wrap()", x.wrap(), 1);
        Checks.due("done(0, 2)", x.done(0, 2), 2);
        x.addRoll(1000, 1);
        Checks.due("wrap()", x.wrap(), 0);
        // At 0, 20, 40, 50.
        Checks.due("done(0, 2)", x.done(0, 2), 4);
        Checks.due("done(0, 4)", x.done(0, 4), 40 + 80 + 80 + 80);
        Checks.due("zone(0, 0, 1)", x.zone(0, 0, 1), 56);
        Checks.due("zone(0, 2, 1)", x.zone(0, 2, 1), 56 + 280);
        Checks.due("zone(0, 9, 1)", x.zone(0, 9, 1), 280);
    }

    private static void covered() {
        Checks.sentence(0, "zone z reaches from the height 10 * z to 10 * z + 10");
        Checks.sentence(0, "The film is 50 wide");
        Checks.sentence(0, "A turn at the height y covers all zones that have some height above y and below y + 50.");
        // A turn at y, and the first and the last zone that it covers.
        int[][] rows = {{1, 0, 5}, {2, 0, 5}, {8, 0, 5}, {9, 0, 5}, {10, 1, 5}, {11, 1, 6}, {19, 1, 6}, {20, 2, 6},
            {21, 2, 7}, {50, 5, 9}, {99, 9, 14}, {100, 10, 14}};
        for (int[] row : rows) {
            PalletWrapper x = Wrappers.withProgram("tension 10, up " + row[0]);
            x.addRoll(100, 1);
            x.addPallet(50, 50, 250, 5000, 0);
            // There is film for the first turn alone.
            Checks.due("wrap() from " + row[0], x.wrap(), 1);
            for (int zone = 0; zone < 25; zone++) {
                boolean covered = zone >= row[1] && zone <= row[2];
                Checks.due("zone(0, " + zone + ", 0), a turn at " + row[0], x.zone(0, zone, 0), covered ? 1 : 0);
                Checks.due("zone(0, " + zone + ", 1), a turn at " + row[0], x.zone(0, zone, 1), covered ? 14 : 0);
            }
        }
        turnsAt("stay 1", 250, 0);
        turnsAt("stay 1", 45, 0);
        // The highest zone is covered though the pallet ends within it.
        turnsAt("up 100", 191, 100, 141);
        turnsAt("up 100", 199, 100, 149);
        turnsAt("up 100", 200, 100, 150);
        turnsAt("up 100", 201, 100, 151);
    }

    private static void noSteps() {
        Checks.sentence(0, "The program has at most 12 steps, initially none.");
        PalletWrapper x = new PalletWrapper();
        Checks.due("count(3)", x.count(3), 0);
        Checks.due("step(0, 0)", x.step(0, 0), NOT_FOUND);
        x.addPallet(20, 20, 30, 5000, 0);
        Checks.due("planned(2)", x.planned(2), 0);
        Checks.due("wrap()", x.wrap(), 0);
        String text = "";
        for (int steps = 1; steps <= 12; steps++) {
            text += (steps == 1 ? "" : ", ") + "up " + steps;
            Wrappers.retype(x, text);
            Checks.due("load() of '" + text + "'", x.load(), steps);
            Checks.due("count(3)", x.count(3), steps);
            if (steps % 6 == 0) {
                x = new PalletWrapper();
            }
        }
        Wrappers.program(x, text);
        for (int index = 0; index < 12; index++) {
            Checks.due("step(" + index + ", 1)", x.step(index, 1), index + 1);
        }
        Wrappers.retype(x, text + ", up 1");
        Checks.due("load() of 13 steps", x.load(), PalletWrapper.NOT_POSSIBLE);
        Checks.due("count(3) after that", x.count(3), 12);
        Checks.due("step(12, 0) after that", x.step(12, 0), NOT_FOUND);
    }

    private static void whichStep() {
        Checks.sentence(15, "Returns a step of the program.");
        Checks.sentence(0, "A step has a kind and an amount:");
        Checks.sentence(15, "`what`: 0: its kind, 0 stay, 1 up, 2 down, 3 tension, 4 stretch; 1: its amount");
        Checks.sentence(15, "`index`: 0 for the first one, and so on");
        int[][] due = {{0, 2}, {1, 20}};
        for (int index = 0; index <= 1; index++) {
            for (int what = 0; what <= 1; what++) {
                int asked = index;
                int property = what;
                Checks.sentence(15, "Returns the number");
                Wrappers.changesNothing("step(" + index + ", " + what + ")", Wrappers::some,
                    x -> x.step(asked, property), due[index][what]);
            }
        }
        Checks.sentence(15, "NOT_FOUND if there are not so many");
        for (int what = 0; what <= 1; what++) {
            int property = what;
            Wrappers.refusesEach("step(index, " + what + ")", Wrappers::some, (x, index) -> x.step(index, property),
                NOT_FOUND, 2, 3, 11, 12, 65536, Integer.MAX_VALUE);
            Wrappers.refusesEach("step(index, " + what + ") of none", Wrappers::nothing,
                (x, index) -> x.step(index, property), NOT_FOUND, 0, 1, Integer.MAX_VALUE);
            Checks.sentence(15, "INVALID_ARGUMENT if index is negative or what is out of range");
            Wrappers.refusesEach("step(index, " + what + ")", Wrappers::some, (x, index) -> x.step(index, property),
                INVALID, -1, -2, -65536, Integer.MIN_VALUE);
            Checks.sentence(15, "NOT_FOUND if there are not so many");
        }
        Checks.sentence(15, "INVALID_ARGUMENT if index is negative or what is out of range");
        for (int index : new int[] {0, 1, 2, 12}) {
            Wrappers.refusesEach("step(" + index + ", what)", Wrappers::some, (x, what) -> x.step(index, what),
                INVALID, Wrappers.outside(0, 1));
        }
        Wrappers.refused("step(-1, 2)", Wrappers::some, x -> x.step(-1, 2), INVALID);
        Wrappers.refused("step(0, 2) of none", Wrappers::nothing, x -> x.step(0, 2), INVALID);
    }
}
