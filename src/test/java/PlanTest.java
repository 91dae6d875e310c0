/** PLAN, and promise 11 (plan). */
public final class PlanTest {
    public static void main(String[] args) {
        lengthIsTheGreatestSize();
        topIsTheSpeedSquared();
        entryIsNotAboveTheTop();
        entryIsNotAboveTheJoint();
        jointIsOfTheLesserTop();
        jointIsRoundedDown();
        jointNeedsACommonWay();
        jointOfTheLongestMoves();
        entriesAreNoFartherApartThanTheLengthAllows();
        entriesAreBoundTogether();
        lastBlockComesToRest();
        firstEntryIs0();
        dwellIsEnteredAndLeftAt0();
        exitOfTheBlockAtWorkStays();
        exitOfABlockWithNoneBehindIs0();
        heldRowStartsFrom0Again();
        nextBlockTakesItsPlanAlong();
        stoppedRowStartsFrom0Again();
        planNamesFourThings();
        planIsOfBlocksInTheRow();
        Bench.end();
    }

    private static LayerFeeder feederWith(int acceleration, String... commands) {
        LayerFeeder feeder = Bench.feederWith(acceleration, "G91");
        for (String command : commands) {
            Bench.order(feeder, command);
        }
        return feeder;
    }

    private static void lengthIsTheGreatestSize() {
        Bench.sentence("the LENGTH l, the greatest size of its d");
        LayerFeeder feeder = feederWith(100, "G1 X3 Y4 E-5", "G1 X6 Y1", "G1 X-1", "G4 P7",
            "G1 Y9 X2 E2", "G1 X-7 Y-9 E8", "G1 X500 Y500 E500", "G1 E-1");
        int[] lengths = {5, 6, 1, 7, 9, 9, 500, 1};
        for (int i = 0; i < lengths.length; i++) {
            Bench.due("plan(" + i + ", 2)", feeder.plan(i, 2), lengths[i]);
        }
        LayerFeeder dwells = feederWith(100, "G4 P1", "G4 P200");
        Bench.sentence("2: its length (a dwell's ticks)");
        Bench.due("plan(0, 2)", dwells.plan(0, 2), 1);
        Bench.due("plan(1, 2)", dwells.plan(1, 2), 200);
    }

    private static void topIsTheSpeedSquared() {
        Bench.sentence("the TOP v * v; 3: its top (0 for a dwell)");
        LayerFeeder feeder = feederWith(100, "G1 X1 F1", "G1 X1 F2", "G1 X1 F999", "G1 X1 F1000",
            "G4 P9", "G1 X1 Y1 E1");
        int[] tops = {1, 4, 998001, 1000000, 0, 1000000};
        for (int i = 0; i < tops.length; i++) {
            Bench.due("plan(" + i + ", 3)", feeder.plan(i, 3), tops[i]);
        }
    }

    private static void entryIsNotAboveTheTop() {
        Bench.sentence("it is not above the block's top");
        Bench.dueEntries("slow behind fast", feederWith(1000, "G1 X9 F100", "G1 X9 F3"), 0, 9);
        Bench.dueEntries("fast behind slow", feederWith(1000, "G1 X9 F3", "G1 X9 F100"), 0, 9);
        Bench.dueEntries("slowest", feederWith(1000, "G1 X9 F100", "G1 X9 F1"), 0, 1);
        for (int f = 98; f <= 102; f++) {
            int entry = Math.min(f * f, 10000);
            Bench.dueEntries("F" + f + " at 2 a l = 10000",
                feederWith(1000, "G1 X5 F" + f, "G1 X5"), 0, entry);
        }
    }

    private static void entryIsNotAboveTheJoint() {
        Bench.sentence("it is not above the JOINT with the block before it in the row");
        Bench.dueEntries("3 4 and 4 3", feederWith(1000, "G1 X3 Y4 F50", "G1 X4 Y3"), 0, 2304);
        Bench.dueEntries("3 4 and 3 4", feederWith(1000, "G1 X3 Y4 F50", "G1 X3 Y4"), 0, 2500);
        Bench.dueEntries("2 a l below the joint",
            feederWith(287, "G1 X3 Y4 F50", "G1 X4 Y3"), 0, 8 * 287);
        Bench.dueEntries("2 a l at the joint",
            feederWith(288, "G1 X3 Y4 F50", "G1 X4 Y3"), 0, 2304);
        Bench.dueEntries("2 a l above the joint",
            feederWith(289, "G1 X3 Y4 F50", "G1 X4 Y3"), 0, 2304);
        Bench.dueEntries("E counts, and its sign",
            feederWith(1000, "G1 X10 E20 F100", "G1 X10 E10", "G1 X10 E-9"), 0, 9000, 27);
    }

    private static void jointIsOfTheLesserTop() {
        Bench.sentence("is the lesser top times s * s");
        Bench.dueEntries("the second's",
            feederWith(1000, "G1 X3 Y4 F100", "G1 X4 Y3 F50"), 0, 2304);
        Bench.dueEntries("the first's",
            feederWith(1000, "G1 X3 Y4 F50", "G1 X4 Y3 F100"), 0, 2304);
        Bench.dueEntries("both alike", feederWith(1000, "G1 X3 Y4 F50", "G1 X4 Y3"), 0, 2304);
    }

    private static void jointIsRoundedDown() {
        Bench.sentence("divided by the product of the sums, rounded down");
        Bench.dueEntries("49 * 576 / 625 = 45.16",
            feederWith(1000, "G1 X3 Y4 F7", "G1 X4 Y3"), 0, 45);
        Bench.dueEntries("25 * 576 / 625 = 23.04",
            feederWith(1000, "G1 X3 Y4 F5", "G1 X4 Y3"), 0, 23);
        Bench.dueEntries("625 * 576 / 625 = 576",
            feederWith(1000, "G1 X3 Y4 F25", "G1 X4 Y3"), 0, 576);
        Bench.dueEntries("1 * 576 / 625 = 0.92",
            feederWith(1000, "G1 X3 Y4 F1", "G1 X4 Y3"), 0, 0);
        Bench.dueEntries("4 * 1 / 2 = 2", feederWith(1000, "G1 X1 F2", "G1 X1 Y1"), 0, 2);
        Bench.dueEntries("9 * 1 / 2 = 4.5", feederWith(1000, "G1 X1 F3", "G1 X1 Y1"), 0, 4);
        Bench.dueEntries("1 * 4 / 4 = 1", feederWith(1000, "G1 X1 F1", "G1 X2"), 0, 1);
    }

    private static void jointNeedsACommonWay() {
        Bench.sentence("if s, the sum of all d * e, is above 0; else, and with a dwell, 0");
        Bench.dueEntries("a right angle", feederWith(1000, "G1 X9", "G1 Y9", "G1 E9"), 0, 0, 0);
        Bench.dueEntries("s = 0", feederWith(1000, "G1 X9 E9", "G1 X9 E-9"), 0, 0);
        Bench.dueEntries("s = 0", feederWith(1000, "G1 X9 Y1 F1000", "G1 X1 Y9 E1", "G1 Y1 E-9"),
            0, 18000, 0);
        Bench.dueEntries("s = 1",
            feederWith(1000, "G1 X5 Y3 F1000", "G1 X2 Y-3"), 0, 1000000 / (34 * 13));
        Bench.dueEntries("s = 1, far apart",
            feederWith(1000, "G1 X1 F1000", "G1 X1 Y499"), 0, 4);
        Bench.dueEntries("s = -1", feederWith(1000, "G1 X5 Y3 F1000", "G1 X1 Y-2"), 0, 0);
        Bench.dueEntries("there and back", feederWith(1000, "G1 X9", "G1 X-9"), 0, 0);
        Bench.dueEntries("mostly back", feederWith(1000, "G1 X9 Y1", "G1 X-1 Y1"), 0, 0);
        Bench.dueEntries("both down", feederWith(1000, "G1 X9 E-9 F50", "G4 P1", "G1 X-3",
            "G1 X-3", "G1 E-3"), 0, 0, 0, 2500, 0);
    }

    private static void jointOfTheLongestMoves() {
        Bench.sentence("the lesser top times s * s, divided by the product (in whole numbers)");
        Bench.dueEntries("straight on",
            feederWith(1000, "G1 X499 Y499 E499 F1000", "G1 X500 Y500 E500"), 0, 998000);
        Bench.dueEntries("a corner",
            feederWith(1000, "G1 X499 Y500 E500 F1000", "G1 X499 Y499 E-490", "G1 X1"),
            0, 116241, 2000);
        Bench.dueEntries("a slight corner",
            feederWith(1000, "G1 X500 Y500 E500 F1000", "G1 X499 Y499 E498"), 0, 998000);
        Bench.dueEntries("a slight corner, slowly",
            feederWith(1000, "G1 X500 Y500 E500 F900", "G1 X499 Y499 E498"), 0, 809999);
    }

    private static void entriesAreNoFartherApartThanTheLengthAllows() {
        Bench.sentence("no farther from one another than 2 a l, l being the length of the first");
        Bench.dueEntries("up by the first's length",
            feederWith(5, "G1 X3 F1000", "G1 X20"), 0, 30);
        Bench.dueEntries("down by the second's length",
            feederWith(5, "G1 X20 F1000", "G1 X3"), 0, 30);
        Bench.dueEntries("up by both", feederWith(5, "G1 X3 F1000", "G1 X4", "G1 X20"), 0, 30, 70);
        Bench.dueEntries("down by both",
            feederWith(5, "G1 X20 F1000", "G1 X4", "G1 X3"), 0, 70, 30);
        Bench.dueEntries("the acceleration's least", feederWith(1, "G1 X1 F1000", "G1 X1"), 0, 2);
        Bench.dueEntries("the acceleration's most",
            feederWith(1000, "G1 X1 F1000", "G1 X1"), 0, 2000);
        Bench.dueEntries("lengths, not ways", feederWith(5, "G1 X3 Y3 E3 F1000", "G1 X9 Y9 E9"),
            0, 30);
    }

    private static void entriesAreBoundTogether() {
        Bench.sentence("the greatest number such that, for all of these together");
        Bench.dueEntries("10 1 10",
            feederWith(5, "G1 X10 F1000", "G1 X1", "G1 X10"), 0, 100, 100);
        Bench.dueEntries("10 1 9", feederWith(5, "G1 X10 F1000", "G1 X1", "G1 X9"), 0, 100, 90);
        Bench.dueEntries("10 1 8", feederWith(5, "G1 X10 F1000", "G1 X1", "G1 X8"), 0, 90, 80);
        Bench.dueEntries("10 20 3",
            feederWith(5, "G1 X10 F1000", "G1 X20", "G1 X3"), 0, 100, 30);
        Bench.dueEntries("10 2 3",
            feederWith(5, "G1 X10 F1000", "G1 X2", "G1 X3"), 0, 50, 30);
        Bench.dueEntries("up and down over 8",
            feederWith(1, "G1 X1 F1000", "G1 X2", "G1 X3", "G1 X4", "G1 X5", "G1 X3", "G1 X2",
                "G1 X1"), 0, 2, 6, 12, 20, 12, 6, 2);
        Bench.dueEntries("up over 8",
            feederWith(1, "G1 X1 F1000", "G1 X1", "G1 X1", "G1 X1", "G1 X1", "G1 X1", "G1 X1",
                "G1 X9"), 0, 2, 4, 6, 8, 10, 12, 14);
        Bench.dueEntries("down over 8",
            feederWith(1, "G1 X9 F1000", "G1 X1", "G1 X1", "G1 X1", "G1 X1", "G1 X1", "G1 X1",
                "G1 X1"), 0, 14, 12, 10, 8, 6, 4, 2);
        Bench.dueEntries("a slow one between",
            feederWith(1, "G1 X50 F1000", "G1 X2", "G1 X9 F3", "G1 X4 F1000", "G1 X50"),
            0, 13, 9, 9, 17);
        Bench.dueEntries("a corner between",
            feederWith(1, "G1 X50 F1000", "G1 X2", "G1 Y9", "G1 Y4", "G1 Y50"), 0, 4, 0, 18, 26);
    }

    private static void lastBlockComesToRest() {
        Bench.sentence("that of the next block (0 behind the last one)");
        LayerFeeder feeder = feederWith(100, "G1 X50 F1000", "G1 X1");
        Bench.dueEntries("two", feeder, 0, 200);
        Bench.order(feeder, "G1 X1");
        Bench.dueEntries("three", feeder, 0, 400, 200);
        Bench.order(feeder, "G1 X1");
        Bench.dueEntries("four", feeder, 0, 600, 400, 200);
        Bench.order(feeder, "G1 X0 F50");
        Bench.dueEntries("behind a command without a block", feeder, 0, 600, 400, 200);
    }

    private static void firstEntryIs0() {
        Bench.sentence("if not, that of the first one is 0");
        Bench.dueEntries("one", feederWith(1000, "G1 X500 F1000"), 0);
        Bench.dueEntries("a dwell", feederWith(1000, "G4 P200"), 0);
        LayerFeeder feeder = feederWith(1000, "G1 X10 F1000", "G1 X10");
        feeder.run(20000);
        Bench.order(feeder, "G1 X10");
        Bench.order(feeder, "G1 X10");
        Bench.dueEntries("behind others that have ended", feeder, 0, 20000);
    }

    private static void dwellIsEnteredAndLeftAt0() {
        Bench.sentence("not above the block's top (0 for a dwell); with a dwell, 0");
        Bench.dueEntries("a dwell between",
            feederWith(5, "G1 X10 F1000", "G1 X10", "G4 P200", "G1 X10", "G1 X7"),
            0, 100, 0, 0, 70);
        Bench.dueEntries("dwells between",
            feederWith(5, "G1 X10 F1000", "G4 P1", "G4 P1", "G1 X10", "G1 X7"), 0, 0, 0, 0, 70);
        LayerFeeder feeder = feederWith(5, "G4 P9", "G1 X10 F1000", "G1 X7");
        feeder.tick();
        Bench.dueEntries("a dwell at work", feeder, 0, 0, 70);
        LayerFeeder again = feederWith(5, "G1 X9 F1000", "G1 X9", "G1 X9", "G1 X9", "G1 X9",
            "G1 X9", "G1 X9", "G1 X9");
        again.stop();
        for (int i = 0; i < 8; i++) {
            Bench.order(again, "G4 P1");
        }
        Bench.dueEntries("dwells where moves were", again, 0, 0, 0, 0, 0, 0, 0, 0);
    }

    private static void exitOfTheBlockAtWorkStays() {
        Bench.sentence("If a block is at work, the entry of the first one behind it is its EXIT");
        LayerFeeder feeder = feederWith(100, "G1 X10 F1000", "G1 X2");
        Bench.dueEntries("before work", feeder, 0, 400);
        feeder.tick();
        Bench.order(feeder, "G1 X50");
        Bench.dueEntries("at work", feeder, 0, 400, 800);
        Bench.order(feeder, "G1 Y50");
        Bench.dueEntries("at work, a corner behind", feeder, 0, 400, 800, 0);
        LayerFeeder resting = feederWith(100, "G1 X10 F1000", "G1 X2", "G1 X50");
        Bench.dueEntries("the same, not at work", resting, 0, 2000, 2400);
    }

    private static void exitOfABlockWithNoneBehindIs0() {
        Bench.sentence("its exit the planned entry of the one behind it (0 if there is none)");
        LayerFeeder feeder = feederWith(100, "G1 X10 F1000");
        feeder.tick();
        Bench.order(feeder, "G1 X10");
        Bench.dueEntries("the next one comes late", feeder, 0, 0);
        Bench.order(feeder, "G1 X10");
        Bench.dueEntries("one more", feeder, 0, 0, 2000);
        feeder.run(20000);
        Bench.due("left()", feeder.left(), 0);
        Bench.order(feeder, "G1 X10");
        Bench.order(feeder, "G1 X10");
        Bench.dueEntries("behind an empty row", feeder, 0, 2000);
    }

    private static void heldRowStartsFrom0Again() {
        Bench.sentence("If a block is at work, its EXIT; if not, that of the first one is 0");
        LayerFeeder feeder = feederWith(100, "G1 X10 F1000", "G1 X2", "G1 X50");
        feeder.tick();
        feeder.hold(true);
        Bench.dueEntries("held, at work", feeder, 0, 2000, 2400);
        feeder.run(20000);
        Bench.dueEntries("held, at rest", feeder, 0, 400);
        Bench.order(feeder, "G1 X50");
        Bench.dueEntries("held, one more", feeder, 0, 400, 10000);
        feeder.hold(false);
        Bench.dueEntries("going on", feeder, 0, 400, 10000);
        feeder.tick();
        Bench.dueEntries("at work again", feeder, 0, 400, 10000);
    }

    private static void nextBlockTakesItsPlanAlong() {
        Bench.sentence("the one behind it begins to be at work at once, as above");
        LayerFeeder feeder = feederWith(1000, "G1 X10 F1000", "G1 X10", "G1 X2");
        Bench.dueEntries("before work", feeder, 0, 20000, 4000);
        feeder.tick();
        int leading = 0;
        for (int i = 0; i < 200 && leading < 10; i++) {
            leading += feeder.run(1);
        }
        Bench.due("busy()", feeder.busy(), true);
        Bench.due("left()", feeder.left(), 2);
        Bench.due("plan(0, 0)", feeder.plan(0, 0), 20000);
        Bench.due("plan(0, 1)", feeder.plan(0, 1), 4000);
        Bench.order(feeder, "G1 X50");
        Bench.due("plan(0, 0) stays", feeder.plan(0, 0), 20000);
        Bench.due("plan(0, 1) stays", feeder.plan(0, 1), 4000);
        Bench.due("plan(1, 0) stays", feeder.plan(1, 0), 4000);
        Bench.due("plan(1, 1)", feeder.plan(1, 1), 8000);
        Bench.due("plan(2, 0)", feeder.plan(2, 0), 8000);
    }

    private static void stoppedRowStartsFrom0Again() {
        Bench.sentence("if not, that of the first one is 0");
        LayerFeeder feeder = feederWith(100, "G1 X10 F1000", "G1 X10", "G1 X10");
        feeder.tick();
        feeder.stop();
        Bench.order(feeder, "G1 X20");
        Bench.order(feeder, "G1 X10");
        Bench.dueEntries("behind stop()", feeder, 0, 2000);
    }

    private static void planNamesFourThings() {
        Bench.sentence("Illegal argument: what is none of these");
        LayerFeeder feeder = feederWith(100, "G1 X2", "G1 X3");
        int[] answers = {0, 400, 2, 10000};
        for (int what = 0; what <= 3; what++) {
            Bench.due("plan(0, " + what + ")", feeder.plan(0, what), answers[what]);
        }
        int[] none = {Integer.MIN_VALUE, -2, -1, 4, 5, 256, Integer.MAX_VALUE};
        for (int what : none) {
            for (int i : new int[] {-1, 0, 1, 2}) {
                Bench.dueThrow("plan(" + i + ", " + what + ")", IllegalArgumentException.class,
                    () -> feeder.plan(i, what));
            }
        }
    }

    private static void planIsOfBlocksInTheRow() {
        Bench.sentence("index out of bounds: there is no such block");
        int[] none = {Integer.MIN_VALUE, -8, -1, 8, 9, 256, Integer.MAX_VALUE};
        LayerFeeder feeder = feederWith(100);
        for (int count = 0; count <= 8; count++) {
            for (int i : none) {
                Bench.dueThrow("plan(" + i + ", 2)", IndexOutOfBoundsException.class,
                    () -> feeder.plan(i, 2));
            }
            for (int i = 0; i < count; i++) {
                Bench.due("plan(" + i + ", 2)", feeder.plan(i, 2), i + 1);
            }
            int next = count;
            for (int what = 0; what <= 3; what++) {
                int w = what;
                Bench.dueThrow("plan(" + next + ", " + w + ")", IndexOutOfBoundsException.class,
                    () -> feeder.plan(next, w));
            }
            if (count < 8) {
                Bench.order(feeder, "G1 X" + (count + 1));
            }
        }
        feeder.tick();
        Bench.due("plan(7, 2) at work", feeder.plan(7, 2), 8);
        Bench.dueThrow("plan(8, 2) at work", IndexOutOfBoundsException.class,
            () -> feeder.plan(8, 2));
        feeder.stop();
        Bench.dueThrow("plan(0, 2) behind stop()", IndexOutOfBoundsException.class,
            () -> feeder.plan(0, 2));
    }
}
