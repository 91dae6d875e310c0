/** Promises 6 (tick), 7 (run), 8 (place), 10 (left), 12 (busy), 13 (hold) and 14 (stop). */
public final class TickTest {
    public static void main(String[] args) {
        stepsComeWithTheirTicks();
        stepsDownHaveBitsOfTheirOwn();
        movesAreEnteredAtSpeed();
        slowestStepTakes1000Ticks();
        dwellTakesItsTicks();
        idleTicksDoNothing();
        runEndsWithThePower();
        runLooksAtItsArgument();
        heldRowBeginsNothing();
        holdTellsWhatChanged();
        stopEmptiesTheRow();
        stopWritesNoSlot();
        Bench.end();
    }

    /** Ticks until one answers other than 0, which is to be the one told, with the bits told. */
    private static void dueStep(LayerFeeder feeder, int ticks, int bits) {
        int passed = 0;
        int got = 0;
        while (got == 0 && passed < ticks + 5) {
            got = feeder.tick();
            passed++;
        }
        Bench.due("the ticks of a step", passed, ticks);
        Bench.due("its bits", got, bits);
    }

    private static void stepsComeWithTheirTicks() {
        LayerFeeder feeder = new LayerFeeder(1000);
        Bench.order(feeder, "G1 Y2 F1000");
        feeder.run(20000);
        Bench.order(feeder, "G1 X4 Y0 E1");
        Bench.due("busy() before", feeder.busy(), false);
        dueStep(feeder, 22, 1 + 2 + 16);
        Bench.duePlace("1 leading step", feeder, 1, 1, 0);
        Bench.due("busy() within", feeder.busy(), true);
        Bench.due("left() within", feeder.left(), 1);
        dueStep(feeder, 15, 1 + 4);
        Bench.duePlace("2 leading steps", feeder, 2, 1, 1);
        dueStep(feeder, 15, 1 + 2 + 16);
        Bench.duePlace("3 leading steps", feeder, 3, 0, 1);
        dueStep(feeder, 22, 1);
        Bench.duePlace("4 leading steps", feeder, 4, 0, 1);
        Bench.due("busy() behind", feeder.busy(), false);
        Bench.due("left() behind", feeder.left(), 0);
        Bench.dueCommanded("behind", feeder, 4, 0, 1);
    }

    private static void stepsDownHaveBitsOfTheirOwn() {
        LayerFeeder feeder = new LayerFeeder(1000);
        Bench.order(feeder, "G1 X1 Y1 E1 F1000");
        dueStep(feeder, 22, 1 + 2 + 4);
        Bench.order(feeder, "G1 X0 Y0 E0");
        dueStep(feeder, 22, 63);
        Bench.order(feeder, "G1 E-1");
        dueStep(feeder, 22, 4 + 32);
        Bench.order(feeder, "G1 Y1 E-2");
        dueStep(feeder, 22, 2 + 4 + 32);
        Bench.order(feeder, "G1 X1 Y0");
        dueStep(feeder, 22, 1 + 2 + 16);
        Bench.order(feeder, "G1 X0");
        dueStep(feeder, 22, 1 + 8);
    }

    private static void movesAreEnteredAtSpeed() {
        LayerFeeder feeder = new LayerFeeder(1000);
        Bench.order(feeder, "G1 X10 F1000");
        Bench.order(feeder, "G1 X20");
        Bench.due("run(107)", feeder.run(107), 9);
        Bench.due("left()", feeder.left(), 2);
        Bench.due("run(1)", feeder.run(1), 1);
        Bench.due("left()", feeder.left(), 1);
        Bench.due("busy(): the next one at once", feeder.busy(), true);
        Bench.due("run(6)", feeder.run(6), 0);
        Bench.due("tick()", feeder.tick(), 1);
        Bench.due("run(100)", feeder.run(100), 8);
        Bench.due("busy()", feeder.busy(), true);
        Bench.due("run(1)", feeder.run(1), 1);
        Bench.due("busy()", feeder.busy(), false);
        Bench.duePlace("behind", feeder, 20, 0, 0);
    }

    private static void slowestStepTakes1000Ticks() {
        LayerFeeder feeder = new LayerFeeder(1000);
        Bench.order(feeder, "G1 X2 F1");
        Bench.due("run(999)", feeder.run(999), 0);
        Bench.due("tick()", feeder.tick(), 1);
        Bench.due("run(999)", feeder.run(999), 0);
        Bench.due("run(1)", feeder.run(1), 1);
        Bench.due("left()", feeder.left(), 0);
        LayerFeeder fast = new LayerFeeder(1000);
        Bench.order(fast, "G1 X500 F1000");
        Bench.order(fast, "G1 X999");
        Bench.due("run(20000)", fast.run(20000), 999);
        Bench.duePlace("behind", fast, 999, 0, 0);
    }

    private static void dwellTakesItsTicks() {
        LayerFeeder feeder = new LayerFeeder(1000);
        Bench.order(feeder, "G4 P3");
        Bench.order(feeder, "G4 P1");
        Bench.order(feeder, "G1 X1 F1000");
        Bench.due("tick() 1", feeder.tick(), 0);
        Bench.due("busy()", feeder.busy(), true);
        Bench.due("run(1)", feeder.run(1), 0);
        Bench.due("left()", feeder.left(), 3);
        Bench.due("tick() 3", feeder.tick(), 0);
        Bench.due("left()", feeder.left(), 2);
        Bench.due("busy(): the next one at once", feeder.busy(), true);
        Bench.due("tick() 4", feeder.tick(), 0);
        Bench.due("left()", feeder.left(), 1);
        dueStep(feeder, 22, 1);
        Bench.due("slot(1, 3)", feeder.slot(1, 3), 3);
    }

    private static void idleTicksDoNothing() {
        LayerFeeder feeder = new LayerFeeder(100);
        Bench.due("tick()", feeder.tick(), 0);
        Bench.due("run(20000)", feeder.run(20000), 0);
        Bench.due("busy()", feeder.busy(), false);
        Bench.dueSlot("idle", feeder, 1, 0, 0, 0, 0);
        Bench.order(feeder, "G4 P1");
        Bench.due("run(1)", feeder.run(1), 0);
        Bench.due("left()", feeder.left(), 0);
    }

    private static void runEndsWithThePower() {
        LayerFeeder feeder = new LayerFeeder(1000);
        Bench.order(feeder, "G1 X3 F1000");
        Bench.order(feeder, "G1 X9");
        feeder.cut(5);
        Bench.due("run(20000)", feeder.run(20000), 3);
        Bench.duePlace("cut", feeder, 3, 0, 0);
        Bench.dueThrow("tick() when off", IllegalStateException.class, feeder::tick);
        Bench.dueThrow("run(1) when off", IllegalStateException.class, () -> feeder.run(1));
        feeder.power();
        Bench.dueThrow("tick() when lost", IllegalStateException.class, feeder::tick);
        Bench.dueThrow("run(1) when lost", IllegalStateException.class, () -> feeder.run(1));
        Bench.dueThrow("run(0) when lost", IllegalArgumentException.class, () -> feeder.run(0));
    }

    private static void runLooksAtItsArgument() {
        LayerFeeder feeder = new LayerFeeder(1000);
        Bench.order(feeder, "G4 P1");
        int[] wrong = {0, -1, 20001, Integer.MIN_VALUE, Integer.MAX_VALUE};
        for (int n : wrong) {
            Bench.dueThrow("run(" + n + ")", IllegalArgumentException.class, () -> feeder.run(n));
        }
        Bench.due("busy()", feeder.busy(), false);
        Bench.due("left()", feeder.left(), 1);
        Bench.due("run(20000)", feeder.run(20000), 0);
        LayerFeeder off = Bench.cutOff(5);
        Bench.dueThrow("run(0) when off", IllegalArgumentException.class, () -> off.run(0));
        Bench.dueThrow("run(20001) when off", IllegalArgumentException.class, () -> off.run(20001));
    }

    private static void heldRowBeginsNothing() {
        LayerFeeder feeder = new LayerFeeder(1000);
        Bench.order(feeder, "G1 X1 F1000");
        Bench.order(feeder, "G4 P2");
        Bench.order(feeder, "G1 X2");
        feeder.hold(true);
        Bench.due("tick()", feeder.tick(), 0);
        Bench.due("run(20000)", feeder.run(20000), 0);
        Bench.due("busy() when held", feeder.busy(), false);
        feeder.hold(false);
        Bench.due("busy() before a tick", feeder.busy(), false);
        Bench.due("tick()", feeder.tick(), 0);
        Bench.due("busy()", feeder.busy(), true);
        feeder.hold(true);
        Bench.due("the block at work goes on", feeder.run(21), 1);
        Bench.due("left()", feeder.left(), 2);
        Bench.due("busy() behind it", feeder.busy(), false);
        Bench.due("run(100)", feeder.run(100), 0);
        Bench.due("left()", feeder.left(), 2);
        feeder.hold(false);
        feeder.tick();
        feeder.hold(true);
        feeder.tick();
        Bench.due("left(): the dwell went on", feeder.left(), 1);
        Bench.due("busy()", feeder.busy(), false);
        feeder.hold(false);
        dueStep(feeder, 22, 1);
    }

    private static void holdTellsWhatChanged() {
        LayerFeeder feeder = new LayerFeeder(100);
        Bench.due("hold(false)", feeder.hold(false), false);
        Bench.due("hold(true)", feeder.hold(true), true);
        Bench.due("hold(true)", feeder.hold(true), false);
        Bench.due("hold(false)", feeder.hold(false), true);
        LayerFeeder off = Bench.cutOff(5);
        Bench.dueThrow("hold(true) when off", IllegalStateException.class, () -> off.hold(true));
        Bench.dueThrow("hold(false) when off", IllegalStateException.class, () -> off.hold(false));
        off.power();
        Bench.due("hold(false) when lost", off.hold(false), false);
        Bench.due("hold(true) when lost", off.hold(true), true);
        off.home();
        Bench.due("hold(true) behind home()", off.hold(true), false);
    }

    private static void stopEmptiesTheRow() {
        LayerFeeder feeder = new LayerFeeder(1000);
        Bench.due("stop() of nothing", feeder.stop(), 0);
        Bench.order(feeder, "G1 X100 Y50 E-25 F1000");
        Bench.order(feeder, "G4 P9");
        Bench.order(feeder, "G1 X200");
        Bench.due("run(49)", feeder.run(49), 3);
        feeder.hold(true);
        Bench.due("stop()", feeder.stop(), 3);
        Bench.due("left()", feeder.left(), 0);
        Bench.due("busy()", feeder.busy(), false);
        Bench.duePlace("stopped", feeder, 3, 2, -1);
        Bench.dueCommanded("stopped", feeder, 3, 2, -1);
        Bench.due("hold(true): still held", feeder.hold(true), false);
        feeder.hold(false);
        Bench.due("run(100)", feeder.run(100), 0);
        Bench.order(feeder, "G1 X4");
        dueStep(feeder, 22, 1);
        LayerFeeder off = Bench.cutOff(5);
        Bench.dueThrow("stop() when off", IllegalStateException.class, off::stop);
        off.power();
        Bench.dueThrow("stop() when lost", IllegalStateException.class, off::stop);
    }

    private static void stopWritesNoSlot() {
        LayerFeeder feeder = new LayerFeeder(1000);
        Bench.order(feeder, "G1 X5 F1000");
        feeder.cut(5);
        feeder.run(30);
        feeder.stop();
        Bench.dueSlot("stopped", feeder, 1, 0, 0, 0, 0);
        Bench.order(feeder, "G4 P1");
        feeder.tick();
        Bench.dueSlot("the next block that ends", feeder, 1, 1, 0, 0, 1);
        Bench.dueThrow("tick(): the cut was set still", IllegalStateException.class, feeder::tick);
    }
}
