/** Promise 11: plan. */
public final class PlanTest {
    public static void main(String[] args) {
        lengthAndTop();
        jointOfTwoMoves();
        jointIs0WithoutCommonWay();
        topBindsTheEntry();
        accelerationBindsBothWays();
        dwellIsEnteredAndLeftAt0();
        exitOfTheBlockAtWorkStays();
        exitOfABlockWithNoneBehindIs0();
        heldRowStartsFrom0Again();
        nextBlockTakesItsPlanAlong();
        stoppedRowStartsFrom0Again();
        argumentsAreLookedAt();
        Bench.end();
    }

    private static LayerFeeder feederWith(int acceleration, String... commands) {
        LayerFeeder feeder = new LayerFeeder(acceleration);
        Bench.order(feeder, "G91");
        for (String command : commands) {
            Bench.order(feeder, command);
        }
        return feeder;
    }

    private static void lengthAndTop() {
        LayerFeeder feeder = feederWith(100, "G1 X3 Y4 E-5 F7", "G1 X6 Y1 F1000", "G1 X-1 F1",
            "G4 P7", "G1 Y9 X2 E2 F999");
        int[] lengths = {5, 6, 1, 7, 9};
        int[] tops = {49, 1000000, 1, 0, 998001};
        for (int i = 0; i < lengths.length; i++) {
            Bench.due("plan(" + i + ", 2)", feeder.plan(i, 2), lengths[i]);
            Bench.due("plan(" + i + ", 3)", feeder.plan(i, 3), tops[i]);
        }
    }

    private static void jointOfTwoMoves() {
        Bench.dueEntries("the lesser top is the second's",
            feederWith(1000, "G1 X3 Y4 F100", "G1 X4 Y3 F50"), 0, 2304);
        Bench.dueEntries("the lesser top is the first's",
            feederWith(1000, "G1 X3 Y4 F50", "G1 X4 Y3 F100"), 0, 2304);
        Bench.dueEntries("rounded down",
            feederWith(1000, "G1 X3 Y4 F7", "G1 X4 Y3"), 0, 45);
        Bench.dueEntries("E counts",
            feederWith(1000, "G1 X10 E20 F100", "G1 X10 E10"), 0, 9000);
        Bench.dueEntries("long moves at full speed",
            feederWith(1000, "G1 X499 Y499 E499 F1000", "G1 X500 Y500 E500"), 0, 998000);
        Bench.dueEntries("long moves bound by the joint",
            feederWith(1000, "G1 X499 Y500 E500 F1000", "G1 X499 Y499 E-490", "G1 X1"),
            0, 116241, 2000);
    }

    private static void jointIs0WithoutCommonWay() {
        Bench.dueEntries("a right angle", feederWith(1000, "G1 X9", "G1 Y9", "G1 E9"), 0, 0, 0);
        Bench.dueEntries("a right angle askew", feederWith(1000, "G1 X9 E9", "G1 X9 E-9"), 0, 0);
        Bench.dueEntries("there and back", feederWith(1000, "G1 X9", "G1 X-9"), 0, 0);
        Bench.dueEntries("partly back", feederWith(1000, "G1 X9 Y1", "G1 X-1 Y1"), 0, 0);
    }

    private static void topBindsTheEntry() {
        Bench.dueEntries("slow behind fast", feederWith(1000, "G1 X9 F100", "G1 X9 F3"), 0, 9);
        Bench.dueEntries("fast behind slow", feederWith(1000, "G1 X9 F3", "G1 X9 F100"), 0, 9);
    }

    private static void accelerationBindsBothWays() {
        Bench.dueEntries("10 1 10",
            feederWith(5, "G1 X10 F1000", "G1 X1", "G1 X10"), 0, 100, 100);
        Bench.dueEntries("10 20 3",
            feederWith(5, "G1 X10 F1000", "G1 X20", "G1 X3"), 0, 100, 30);
        Bench.dueEntries("10 2 3",
            feederWith(5, "G1 X10 F1000", "G1 X2", "G1 X3"), 0, 50, 30);
        Bench.dueEntries("up and down over 8",
            feederWith(1, "G1 X1 F1000", "G1 X2", "G1 X3", "G1 X4", "G1 X5", "G1 X3", "G1 X2",
                "G1 X1"), 0, 2, 6, 12, 20, 12, 6, 2);
        Bench.dueEntries("a slow one between",
            feederWith(1, "G1 X50 F1000", "G1 X2", "G1 X9 F3", "G1 X4 F1000", "G1 X50"),
            0, 13, 9, 9, 17);
    }

    private static void dwellIsEnteredAndLeftAt0() {
        Bench.dueEntries("a dwell between",
            feederWith(5, "G1 X10 F1000", "G1 X10", "G4 P200", "G1 X10", "G1 X7"),
            0, 100, 0, 0, 70);
    }

    private static void exitOfTheBlockAtWorkStays() {
        LayerFeeder feeder = feederWith(100, "G1 X10 F1000", "G1 X2");
        Bench.dueEntries("before work", feeder, 0, 400);
        feeder.tick();
        Bench.order(feeder, "G1 X50");
        Bench.dueEntries("at work", feeder, 0, 400, 800);
        Bench.order(feeder, "G1 Y50");
        Bench.dueEntries("at work, a corner behind", feeder, 0, 400, 800, 0);
        LayerFeeder resting = feederWith(100, "G1 X10 F1000", "G1 X2", "G1 X50");
        Bench.dueEntries("the same, not at work", resting, 0, 2000, 2400);
    }

    private static void exitOfABlockWithNoneBehindIs0() {
        LayerFeeder feeder = feederWith(100, "G1 X10 F1000");
        feeder.tick();
        Bench.order(feeder, "G1 X10");
        Bench.dueEntries("the next one comes late", feeder, 0, 0);
        Bench.order(feeder, "G1 X10");
        Bench.dueEntries("one more", feeder, 0, 0, 2000);
        feeder.run(20000);
        Bench.due("left()", feeder.left(), 0);
        Bench.order(feeder, "G1 X10");
        Bench.order(feeder, "G1 X10");
        Bench.dueEntries("behind an empty row", feeder, 0, 2000);
    }

    private static void heldRowStartsFrom0Again() {
        LayerFeeder feeder = feederWith(100, "G1 X10 F1000", "G1 X2", "G1 X50");
        feeder.tick();
        feeder.hold(true);
        Bench.dueEntries("held, at work", feeder, 0, 2000, 2400);
        feeder.run(20000);
        Bench.dueEntries("held, at rest", feeder, 0, 400);
        Bench.order(feeder, "G1 X50");
        Bench.dueEntries("held, one more", feeder, 0, 400, 10000);
        feeder.hold(false);
        Bench.dueEntries("going on", feeder, 0, 400, 10000);
        feeder.tick();
        Bench.dueEntries("at work again", feeder, 0, 400, 10000);
    }

    private static void nextBlockTakesItsPlanAlong() {
        LayerFeeder feeder = feederWith(1000, "G1 X10 F1000", "G1 X10", "G1 X2");
        Bench.dueEntries("before work", feeder, 0, 20000, 4000);
        feeder.tick();
        int leading = 0;
        for (int i = 0; i < 200 && leading < 10; i++) {
            leading += feeder.run(1);
        }
        Bench.due("busy()", feeder.busy(), true);
        Bench.due("left()", feeder.left(), 2);
        Bench.due("plan(0, 0)", feeder.plan(0, 0), 20000);
        Bench.due("plan(0, 1)", feeder.plan(0, 1), 4000);
        Bench.order(feeder, "G1 X50");
        Bench.due("plan(0, 1) stays", feeder.plan(0, 1), 4000);
        Bench.due("plan(1, 0) stays", feeder.plan(1, 0), 4000);
        Bench.due("plan(1, 1)", feeder.plan(1, 1), 8000);
    }

    private static void stoppedRowStartsFrom0Again() {
        LayerFeeder feeder = feederWith(100, "G1 X10 F1000", "G1 X10", "G1 X10");
        feeder.tick();
        feeder.stop();
        Bench.order(feeder, "G1 X20");
        Bench.order(feeder, "G1 X10");
        Bench.dueEntries("behind stop()", feeder, 0, 2000);
    }

    private static void argumentsAreLookedAt() {
        LayerFeeder feeder = feederWith(100, "G1 X1");
        int[] whats = {-1, 4, Integer.MIN_VALUE, Integer.MAX_VALUE};
        int[] blocks = {-1, 1, 8, Integer.MIN_VALUE, Integer.MAX_VALUE};
        for (int what : whats) {
            Bench.dueThrow("plan(0, " + what + ")", IllegalArgumentException.class,
                () -> feeder.plan(0, what));
            Bench.dueThrow("plan(1, " + what + ")", IllegalArgumentException.class,
                () -> feeder.plan(1, what));
        }
        for (int i : blocks) {
            Bench.dueThrow("plan(" + i + ", 0)", IndexOutOfBoundsException.class,
                () -> feeder.plan(i, 0));
            Bench.dueThrow("plan(" + i + ", 3)", IndexOutOfBoundsException.class,
                () -> feeder.plan(i, 3));
        }
    }
}
