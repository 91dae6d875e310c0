/** A TICK, and promises 6 (tick), 7 (run), 8 (place), 12 (busy) and 13 (hold). */
public final class TickTest {
    public static void main(String[] args) {
        bitsTellAxesAndWays();
        axesAreRoundedHalvesUp();
        leadingStepsMoveTheOthers();
        stepIsMadeWithItsLastTick();
        ticksAreRoundedDown();
        rootIsRoundedDown();
        stepTakesOneTickAtLeast();
        speedRisesAndFalls();
        movesAreEnteredAtSpeed();
        blockBeginsWithTheTick();
        blockEndsWithItsLastStep();
        dwellEndsWithItsLastTick();
        nextBlockBeginsAtOnce();
        idleTicksDoNothing();
        runIsSoManyTicks();
        runCountsLeadingSteps();
        runEndsWithThePower();
        runLooksAtItsArgument();
        heldRowBeginsNothing();
        heldBlockGoesOnToItsEnd();
        holdTellsWhatChanged();
        Bench.end();
    }

    /** Ticks until one answers other than 0, which is to be the one told, with the bits told. */
    private static void dueStep(LayerFeeder feeder, int ticks, int bits) {
        int passed = 0;
        int got = 0;
        while (got == 0 && passed < ticks + 5) {
            got = feeder.tick();
            passed++;
        }
        Bench.due("the ticks of a step", passed, ticks);
        Bench.due("its bits", got, bits);
    }

    /** The next step is made with the last one of so many ticks, and with none before. */
    private static void dueStepOfX(String when, LayerFeeder feeder, int ticks) {
        if (ticks > 1) {
            Bench.due(when + ": run(" + (ticks - 1) + ")", feeder.run(ticks - 1), 0);
        }
        Bench.due(when + ": tick() " + ticks, feeder.tick(), 1);
    }

    private static void bitsTellAxesAndWays() {
        Bench.sentence("for each axis that makes a step in it bit 1, 2 or 4, and 8, 16 or 32 more"
            + " if it is one down");
        for (int x = -1; x <= 1; x++) {
            for (int y = -1; y <= 1; y++) {
                for (int e = -1; e <= 1; e++) {
                    LayerFeeder feeder = Bench.feederWith(1000, "G1 X1 Y1 E1 F1000", "G91");
                    dueStep(feeder, 22, 7);
                    Bench.order(feeder, "G1 X" + x + " Y" + y + " E" + e);
                    if (x != 0 || y != 0 || e != 0) {
                        dueStep(feeder, 22, bits(x, 1) + bits(y, 2) + bits(e, 4));
                    }
                    Bench.duePlace("behind it", feeder, 1 + x, 1 + y, 1 + e);
                }
            }
        }
    }

    private static int bits(int way, int bit) {
        return way == 0 ? 0 : way > 0 ? bit : bit + 8 * bit;
    }

    private static void axesAreRoundedHalvesUp() {
        Bench.sentence("each axis has made |d| * k / l steps, rounded, halves up");
        for (int way = -1; way <= 1; way += 2) {
            dueWay(way, 1, 0);
            dueWay(way, 1, 1);
            dueWay(way, 2, 0, 0);
            dueWay(way, 2, 1, 1);
            dueWay(way, 2, 1, 2);
            dueWay(way, 3, 0, 1, 1);
            dueWay(way, 3, 1, 1, 2);
            dueWay(way, 4, 0, 1, 1, 1);
            dueWay(way, 4, 1, 1, 2, 2);
            dueWay(way, 4, 1, 2, 2, 3);
            dueWay(way, 5, 0, 0, 1, 1, 1);
            dueWay(way, 5, 0, 1, 1, 2, 2);
            dueWay(way, 6, 1, 1, 2, 2, 3, 3);
            dueWay(way, 6, 0, 0, 1, 1, 1, 1);
        }
    }

    /** How far E comes with each step of X, when it goes as far as the last of these. */
    private static void dueWay(int way, int length, int... made) {
        int all = made[length - 1];
        LayerFeeder feeder = Bench.feederWith(1000, "G1 F1000 X" + length + " E" + way * all);
        String when = all * way + " in " + length;
        for (int k = 1; k <= length; k++) {
            int before = k == 1 ? 0 : made[k - 2];
            int bits = 0;
            for (int i = 0; i < 50 && bits == 0; i++) {
                bits = feeder.tick();
            }
            Bench.due(when + ": bits", bits, 1 + bits((made[k - 1] - before) * way, 4));
            Bench.duePlace(when, feeder, k, 0, way * made[k - 1]);
        }
    }

    private static void leadingStepsMoveTheOthers() {
        Bench.sentence("A move makes its LEADING STEPS 1 .. l");
        LayerFeeder feeder = new LayerFeeder(1000);
        Bench.doWhole(feeder, "G1 Y2 F1000");
        Bench.order(feeder, "G1 X4 Y0 E1");
        dueStep(feeder, 22, 1 + 2 + 16);
        Bench.duePlace("1 leading step", feeder, 1, 1, 0);
        dueStep(feeder, 15, 1 + 4);
        Bench.duePlace("2 leading steps", feeder, 2, 1, 1);
        dueStep(feeder, 15, 1 + 2 + 16);
        Bench.duePlace("3 leading steps", feeder, 3, 0, 1);
        dueStep(feeder, 22, 1);
        Bench.duePlace("4 leading steps", feeder, 4, 0, 1);
        Bench.due("left()", feeder.left(), 0);
        LayerFeeder far = Bench.feederWith(1000, "G1 X500 Y499 E-250 F1000");
        Bench.due("run(20000)", far.run(20000), 500);
        Bench.duePlace("the longest", far, 500, 499, -250);
    }

    private static void stepIsMadeWithItsLastTick() {
        Bench.sentence("step k takes T(k) ticks, and is made with the last of these");
        LayerFeeder feeder = Bench.feederWith(1000, "G1 X2 F1");
        Bench.due("run(999)", feeder.run(999), 0);
        Bench.duePlace("one tick before", feeder, 0, 0, 0);
        Bench.due("tick()", feeder.tick(), 1);
        Bench.duePlace("with the tick", feeder, 1, 0, 0);
        Bench.due("run(999)", feeder.run(999), 0);
        Bench.due("run(1)", feeder.run(1), 1);
        Bench.duePlace("behind all", feeder, 2, 0, 0);
    }

    private static void ticksAreRoundedDown() {
        Bench.sentence("T(k) is 1000 divided by the root of S(k), rounded down");
        int[][] speedsAndTicks = {
            {1, 1000}, {2, 500}, {3, 333}, {4, 250}, {6, 166}, {7, 142}, {9, 111}, {10, 100},
            {11, 90}, {12, 83}, {30, 33}, {31, 32}, {32, 31}, {33, 30}, {34, 29}, {43, 23},
        };
        for (int[] pair : speedsAndTicks) {
            LayerFeeder feeder = Bench.feederWith(1000, "G1 X2 F" + pair[0]);
            dueStepOfX("F" + pair[0] + ", first", feeder, pair[1]);
            dueStepOfX("F" + pair[0] + ", second", feeder, pair[1]);
        }
    }

    /** The step of a move of 1 has the least of its top and of twice the acceleration. */
    private static void rootIsRoundedDown() {
        Bench.sentence("the root is rounded down");
        int[][] accelerationsAndTicks = {
            {1, 1000}, {2, 500}, {4, 500}, {5, 333}, {7, 333}, {8, 250}, {12, 250}, {13, 200},
            {17, 200}, {18, 166}, {24, 166}, {25, 142}, {49, 111}, {50, 100}, {60, 100}, {61, 90},
            {512, 31}, {511, 32}, {544, 31}, {545, 30}, {967, 23}, {968, 22}, {1000, 22},
        };
        for (int[] pair : accelerationsAndTicks) {
            LayerFeeder feeder = Bench.feederWith(pair[0], "G1 X1 F1000");
            dueStepOfX("S = 2 * " + pair[0], feeder, pair[1]);
            Bench.due("left()", feeder.left(), 0);
        }
    }

    private static void stepTakesOneTickAtLeast() {
        Bench.sentence("rounded down, but 1 at least");
        Bench.due("at a root of 333", stepsOf90Ticks(333), 30);
        Bench.due("at a root of 334", stepsOf90Ticks(334), 45);
        Bench.due("at a root of 500", stepsOf90Ticks(500), 45);
        Bench.due("at a root of 501", stepsOf90Ticks(501), 90);
        Bench.due("at a root above 501", stepsOf90Ticks(1000), 90);
        LayerFeeder fastest = Bench.feederWith(1000, "G1 X500 F1000", "G1 X999");
        Bench.due("at a root of 1000 in the middle", fastest.run(20000), 999);
        Bench.duePlace("behind", fastest, 999, 0, 0);
    }

    /** How many steps 90 ticks make in the middle of a long move with a speed. */
    private static int stepsOf90Ticks(int speed) {
        LayerFeeder feeder = Bench.feederWith(1000, "G1 X500 F" + speed);
        int steps = 0;
        for (int i = 0; i < 300 && steps < 200; i++) {
            steps += feeder.run(i == 0 ? 400 : 1);
        }
        return feeder.run(90);
    }

    private static void speedRisesAndFalls() {
        Bench.sentence("S(k) is the least of the top, the entry and 2 a k, the exit and"
            + " 2 a (l - k + 1)");
        LayerFeeder feeder = Bench.feederWith(50, "G1 X7 F20");
        int[] ticks = {100, 71, 58, 50, 58, 71, 100};
        for (int k = 1; k <= 7; k++) {
            dueStepOfX("step " + k, feeder, ticks[k - 1]);
        }
        Bench.due("left()", feeder.left(), 0);
        LayerFeeder bound = Bench.feederWith(50, "G1 X7 F17");
        int[] slower = {100, 71, 58, 58, 58, 71, 100};
        for (int k = 1; k <= 7; k++) {
            dueStepOfX("step " + k + " at F17", bound, slower[k - 1]);
        }
    }

    private static void movesAreEnteredAtSpeed() {
        Bench.sentence("the entry and 2 a k, the exit and 2 a (l - k + 1)");
        LayerFeeder feeder = Bench.feederWith(1000, "G1 X10 F1000", "G1 X20");
        Bench.due("run(107)", feeder.run(107), 9);
        Bench.due("left()", feeder.left(), 2);
        Bench.due("run(1)", feeder.run(1), 1);
        Bench.due("left()", feeder.left(), 1);
        Bench.due("run(6)", feeder.run(6), 0);
        Bench.due("tick()", feeder.tick(), 1);
        Bench.due("run(100)", feeder.run(100), 8);
        Bench.due("busy()", feeder.busy(), true);
        Bench.due("run(1)", feeder.run(1), 1);
        Bench.due("busy()", feeder.busy(), false);
        Bench.duePlace("behind", feeder, 20, 0, 0);
    }

    private static void blockBeginsWithTheTick() {
        Bench.sentence("If no block is at work, and it is not HELD, the first one in the row begins");
        LayerFeeder feeder = new LayerFeeder(1000);
        Bench.due("busy(): an empty row", feeder.busy(), false);
        feeder.tick();
        Bench.due("busy(): an empty row, a tick", feeder.busy(), false);
        Bench.order(feeder, "G1 X1 F1000");
        Bench.due("busy() before the tick", feeder.busy(), false);
        Bench.due("tick()", feeder.tick(), 0);
        Bench.due("busy() behind the tick", feeder.busy(), true);
        Bench.due("left()", feeder.left(), 1);
        Bench.due("run(20): the first tick counts", feeder.run(20), 0);
        Bench.due("tick() 22", feeder.tick(), 1);
    }

    private static void blockEndsWithItsLastStep() {
        Bench.sentence("With the last one the block ends");
        LayerFeeder feeder = Bench.feederWith(1000, "G1 X2 Y1 F1000");
        dueStep(feeder, 22, 3);
        Bench.due("busy() within", feeder.busy(), true);
        Bench.due("left() within", feeder.left(), 1);
        Bench.dueSlot("within", feeder, 1, 0, 0, 0, 0);
        Bench.due("run(21)", feeder.run(21), 0);
        Bench.due("busy() one tick before", feeder.busy(), true);
        Bench.due("tick()", feeder.tick(), 1);
        Bench.due("busy() behind", feeder.busy(), false);
        Bench.due("left() behind", feeder.left(), 0);
        Bench.dueSlot("behind", feeder, 1, 2, 1, 0, 1);
        Bench.due("tick()", feeder.tick(), 0);
    }

    private static void dwellEndsWithItsLastTick() {
        Bench.sentence("a dwell ends with its last tick");
        for (int ticks : new int[] {1, 2, 3, 199, 200}) {
            LayerFeeder feeder = Bench.feederWith(1000, "G4 P" + ticks);
            for (int i = 1; i < ticks; i++) {
                Bench.due("tick() of a dwell", feeder.tick(), 0);
                Bench.due("left() behind tick " + i + " of " + ticks, feeder.left(), 1);
            }
            Bench.due("busy()", feeder.busy(), ticks > 1);
            Bench.due("the last tick()", feeder.tick(), 0);
            Bench.due("left() behind " + ticks, feeder.left(), 0);
            Bench.due("busy() behind " + ticks, feeder.busy(), false);
            Bench.dueSlot("behind " + ticks, feeder, 1, 0, 0, 0, 1);
            LayerFeeder other = Bench.feederWith(1000, "G4 P" + ticks);
            if (ticks > 1) {
                Bench.due("run() to its last tick but one", other.run(ticks - 1), 0);
                Bench.due("left()", other.left(), 1);
            }
            Bench.due("run(1)", other.run(1), 0);
            Bench.due("left()", other.left(), 0);
        }
    }

    private static void nextBlockBeginsAtOnce() {
        Bench.sentence("if it is not held, the one behind it begins to be at work at once, as above,"
            + " its first tick being the next one");
        LayerFeeder feeder = Bench.feederWith(1000, "G4 P3", "G4 P1", "G1 X1 F1000", "G1 Y1");
        feeder.run(3);
        Bench.due("left()", feeder.left(), 3);
        Bench.due("busy(): a dwell behind a dwell", feeder.busy(), true);
        feeder.tick();
        Bench.due("left()", feeder.left(), 2);
        Bench.due("busy(): a move behind a dwell", feeder.busy(), true);
        dueStep(feeder, 22, 1);
        Bench.due("left()", feeder.left(), 1);
        Bench.due("busy(): a move behind a move", feeder.busy(), true);
        dueStep(feeder, 22, 2);
        Bench.due("left()", feeder.left(), 0);
        Bench.due("busy(): nothing behind", feeder.busy(), false);
        Bench.due("slot(0, 3)", feeder.slot(0, 3), 4);
    }

    private static void idleTicksDoNothing() {
        Bench.sentence("Then, if one is at work");
        LayerFeeder feeder = new LayerFeeder(100);
        Bench.due("tick()", feeder.tick(), 0);
        Bench.due("run(20000)", feeder.run(20000), 0);
        Bench.due("busy()", feeder.busy(), false);
        Bench.dueSlot("idle", feeder, 1, 0, 0, 0, 0);
        Bench.order(feeder, "G4 P1");
        Bench.due("run(1)", feeder.run(1), 0);
        Bench.due("left()", feeder.left(), 0);
        Bench.dueSlot("one dwell", feeder, 1, 0, 0, 0, 1);
    }

    private static void runIsSoManyTicks() {
        Bench.sentence("n ticks; n is 1 .. 20000");
        LayerFeeder feeder = Bench.feederWith(1000, "G1 X100 F1");
        Bench.due("run(20000)", feeder.run(20000), 20);
        Bench.due("run(19999)", feeder.run(19999), 19);
        Bench.due("run(1)", feeder.run(1), 1);
        Bench.due("run(1)", feeder.run(1), 0);
        Bench.due("run(998)", feeder.run(998), 0);
        Bench.due("run(2)", feeder.run(2), 1);
        Bench.due("run(999)", feeder.run(999), 1);
        Bench.due("run(999)", feeder.run(999), 0);
        Bench.due("run(1001)", feeder.run(1001), 2);
        Bench.duePlace("behind all", feeder, 44, 0, 0);
    }

    private static void runCountsLeadingSteps() {
        Bench.sentence("how many leading steps were made in them");
        LayerFeeder feeder = Bench.feederWith(1000, "G1 X7 Y7 E7 F1000", "G4 P9", "G1 X8 Y5 E-2");
        Bench.due("run(20000)", feeder.run(20000), 7 + 9);
        Bench.due("run(20000) behind", feeder.run(20000), 0);
        LayerFeeder rest = Bench.feederWith(1000, "G1 E-3 F1000", "G1 Y2");
        Bench.due("run(22)", rest.run(22), 1);
        Bench.due("run(20000)", rest.run(20000), 4);
    }

    private static void runEndsWithThePower() {
        Bench.sentence("but none behind one with which the power goes off");
        LayerFeeder feeder = Bench.feederWith(1000, "G1 X3 F1000", "G1 X9");
        feeder.cut(5);
        Bench.due("run(20000)", feeder.run(20000), 3);
        Bench.duePlace("cut", feeder, 3, 0, 0);
        Bench.dueThrow("tick() when off", IllegalStateException.class, feeder::tick);
        LayerFeeder dwelling = Bench.feederWith(1000, "G4 P5", "G1 X9 F1000");
        dwelling.cut(5);
        Bench.due("run(4)", dwelling.run(4), 0);
        Bench.due("run(20000)", dwelling.run(20000), 0);
        Bench.duePlace("cut behind a dwell", dwelling, 0, 0, 0);
        Bench.dueSlot("cut behind a dwell", dwelling, 1, 0, 0, 0, 1);
        LayerFeeder exact = Bench.feederWith(1000, "G1 X1 F1000", "G1 X9");
        exact.cut(5);
        Bench.due("run(21)", exact.run(21), 0);
        Bench.due("run(1)", exact.run(1), 1);
        Bench.dueThrow("run(1) when off", IllegalStateException.class, () -> exact.run(1));
    }

    private static void runLooksAtItsArgument() {
        Bench.sentence("Illegal argument: n is not 1 .. 20000; illegal state");
        LayerFeeder feeder = Bench.feederWith(1000, "G4 P1");
        LayerFeeder off = Bench.cutOff(5);
        LayerFeeder lost = Bench.cutOff(5);
        lost.power();
        int[] wrong = {Integer.MIN_VALUE, -1, 0, 20001, 20002, 65537, Integer.MAX_VALUE};
        for (int n : wrong) {
            Bench.dueThrow("run(" + n + ")", IllegalArgumentException.class, () -> feeder.run(n));
            Bench.dueThrow("run(" + n + ") off", IllegalArgumentException.class, () -> off.run(n));
            Bench.dueThrow("run(" + n + ") lost", IllegalArgumentException.class, () -> lost.run(n));
        }
        for (int n : new int[] {1, 20000}) {
            Bench.dueThrow("run(" + n + ") off", IllegalStateException.class, () -> off.run(n));
            Bench.dueThrow("run(" + n + ") lost", IllegalStateException.class, () -> lost.run(n));
        }
        Bench.due("busy(): nothing was done", feeder.busy(), false);
        Bench.due("left(): nothing was done", feeder.left(), 1);
        Bench.due("run(1)", feeder.run(1), 0);
        Bench.due("left()", feeder.left(), 0);
        Bench.due("run(20000)", feeder.run(20000), 0);
    }

    private static void heldRowBeginsNothing() {
        Bench.sentence("Holds (no block begins any more), or goes on");
        LayerFeeder feeder = Bench.feederWith(1000, "G1 X1 F1000", "G1 X2");
        feeder.hold(true);
        Bench.due("tick()", feeder.tick(), 0);
        Bench.due("run(20000)", feeder.run(20000), 0);
        Bench.due("busy() when held", feeder.busy(), false);
        Bench.due("left() when held", feeder.left(), 2);
        Bench.order(feeder, "G1 X3");
        Bench.due("left(): blocks come still", feeder.left(), 3);
        Bench.due("run(100)", feeder.run(100), 0);
        feeder.hold(false);
        Bench.due("busy() before a tick", feeder.busy(), false);
        Bench.due("tick()", feeder.tick(), 0);
        Bench.due("busy()", feeder.busy(), true);
        Bench.due("run(20000)", feeder.run(20000), 3);
    }

    private static void heldBlockGoesOnToItsEnd() {
        Bench.sentence("With the last one the block ends; if it is not held, the one behind begins");
        LayerFeeder feeder = Bench.feederWith(1000, "G1 X1 F1000", "G4 P2", "G1 X2");
        feeder.tick();
        feeder.hold(true);
        Bench.due("the block at work goes on", feeder.run(21), 1);
        Bench.due("left()", feeder.left(), 2);
        Bench.due("busy() behind it", feeder.busy(), false);
        Bench.dueSlot("it ended", feeder, 1, 1, 0, 0, 1);
        Bench.due("run(100)", feeder.run(100), 0);
        Bench.due("left()", feeder.left(), 2);
        feeder.hold(false);
        feeder.tick();
        feeder.hold(true);
        feeder.tick();
        Bench.due("left(): the dwell went on", feeder.left(), 1);
        Bench.due("busy()", feeder.busy(), false);
        feeder.hold(false);
        feeder.run(21);
        feeder.hold(true);
        feeder.hold(false);
        Bench.due("tick(): held between", feeder.tick(), 1);
    }

    private static void holdTellsWhatChanged() {
        Bench.sentence("whether that is another thing than before");
        LayerFeeder feeder = new LayerFeeder(100);
        Bench.due("hold(false)", feeder.hold(false), false);
        Bench.due("hold(true)", feeder.hold(true), true);
        Bench.due("hold(true)", feeder.hold(true), false);
        Bench.due("hold(false)", feeder.hold(false), true);
        Bench.due("hold(false)", feeder.hold(false), false);
        LayerFeeder lost = Bench.cutOff(5);
        lost.power();
        Bench.due("hold(false) when lost", lost.hold(false), false);
        Bench.due("hold(true) when lost", lost.hold(true), true);
        lost.home();
        Bench.due("hold(true) behind home()", lost.hold(true), false);
        Bench.order(lost, "G4 P1");
        lost.tick();
        Bench.due("left(): held behind home()", lost.left(), 1);
        LayerFeeder resumed = Bench.cutOff(5);
        resumed.power();
        resumed.hold(true);
        resumed.resume();
        Bench.due("hold(false) behind resume()", resumed.hold(false), true);
    }
}
