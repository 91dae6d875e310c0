/** KEEPING, its two slots and the cut, and promises 15 (cut) and 19 (slot). */
public final class KeepTest {
    public static void main(String[] args) {
        slotsAreWrittenInTurn();
        slotsAreWrittenWhenABlockEnds();
        manyBlocksAreCounted();
        wordsAreWrittenOneAfterTheOther();
        firstWordTakesTheOldNumberAway();
        otherSlotIsLeftAlone();
        powerGoesOffWithTheNextBlock();
        powerGoesOffWithADwell();
        rowIsEmptyThen();
        cutIsForOneBlock();
        cutIsSetAnew();
        cutOutlastsStopAndHold();
        cutLooksAtItsArgument();
        slotLooksAtItsArguments();
        Bench.end();
    }

    private static void slotsAreWrittenInTurn() {
        Bench.sentence("slot (m modulo 2) is written, m being 1, 2, .. for the block that ended");
        LayerFeeder feeder = new LayerFeeder(1000);
        Bench.doWhole(feeder, "G1 X3 Y2 E-1 F1000");
        Bench.dueSlot("1 block", feeder, 1, 3, 2, -1, 1);
        Bench.dueSlot("1 block", feeder, 0, 0, 0, 0, 0);
        Bench.doWhole(feeder, "G4 P1");
        Bench.dueSlot("2 blocks", feeder, 0, 3, 2, -1, 2);
        Bench.dueSlot("2 blocks", feeder, 1, 3, 2, -1, 1);
        Bench.doWhole(feeder, "G1 X7 Y8 E-9");
        Bench.dueSlot("3 blocks", feeder, 0, 3, 2, -1, 2);
        Bench.dueSlot("3 blocks", feeder, 1, 7, 8, -9, 3);
        Bench.order(feeder, "G92 X0 Y0 E0");
        Bench.doWhole(feeder, "G1 X1");
        Bench.dueSlot("4 blocks: steps, not values", feeder, 0, 8, 8, -9, 4);
    }

    private static void slotsAreWrittenWhenABlockEnds() {
        Bench.sentence("When a block ends, it is out of the row, and slot (m modulo 2) is written");
        LayerFeeder feeder = Bench.feederWith(1000, "G1 X2 F1000", "G1 X2 Y1", "G4 P2");
        Bench.due("run(43)", feeder.run(43), 1);
        Bench.dueSlot("one tick before its end", feeder, 1, 0, 0, 0, 0);
        Bench.due("left()", feeder.left(), 3);
        Bench.due("tick()", feeder.tick(), 1);
        Bench.dueSlot("at its end: its own place", feeder, 1, 2, 0, 0, 1);
        Bench.dueSlot("at its end", feeder, 0, 0, 0, 0, 0);
        Bench.due("left()", feeder.left(), 2);
        Bench.due("run(22)", feeder.run(22), 1);
        Bench.dueSlot("at the second's end", feeder, 0, 2, 1, 0, 2);
        feeder.tick();
        Bench.dueSlot("within a dwell", feeder, 1, 2, 0, 0, 1);
        feeder.tick();
        Bench.dueSlot("at a dwell's end", feeder, 1, 2, 1, 0, 3);
        feeder.run(20000);
        Bench.dueSlot("long behind it", feeder, 0, 2, 1, 0, 2);
    }

    private static void manyBlocksAreCounted() {
        Bench.sentence("m being 1, 2, .. for the first, second, .. block that ended");
        LayerFeeder feeder = new LayerFeeder(1000);
        Bench.order(feeder, "G91");
        for (int m = 1; m <= 40; m++) {
            Bench.doWhole(feeder, m % 4 == 0 ? "G4 P1" : "G1 E1");
            int feed = m - m / 4;
            Bench.due("slot(" + m % 2 + ", 2)", feeder.slot(m % 2, 2), feed);
            Bench.due("slot(" + m % 2 + ", 3)", feeder.slot(m % 2, 3), m);
            Bench.due("slot of the one before", feeder.slot((m + 1) % 2, 3), m - 1);
        }
    }

    private static void wordsAreWrittenOneAfterTheOther() {
        Bench.sentence("five words, one after the other: 0 as the fourth number, the place of X, of"
            + " Y, of E as the first three, and m as the fourth");
        int[][] slots = {
            {0, 0, 0, 0}, {0, 0, 0, 0}, {3, 0, 0, 0}, {3, 2, 0, 0}, {3, 2, -1, 0}, {3, 2, -1, 1},
        };
        for (int words = 0; words <= 5; words++) {
            LayerFeeder feeder = Bench.cutOff(words);
            Bench.dueSlot("cut(" + words + ")", feeder, 1, slots[words]);
            Bench.dueSlot("cut(" + words + ")", feeder, 0, 0, 0, 0, 0);
            Bench.dueThrow("tick()", IllegalStateException.class, feeder::tick);
        }
    }

    private static void firstWordTakesTheOldNumberAway() {
        Bench.sentence("only so many of these words are written");
        int[][] slots = {
            {3, 2, -1, 1}, {3, 2, -1, 0}, {7, 2, -1, 0}, {7, 8, -1, 0}, {7, 8, -9, 0}, {7, 8, -9, 3},
        };
        for (int words = 0; words <= 5; words++) {
            LayerFeeder feeder = Bench.cutAtTheThird(words);
            Bench.dueSlot("cut(" + words + ")", feeder, 1, slots[words]);
            Bench.dueSlot("cut(" + words + ")", feeder, 0, 4, 5, -6, 2);
        }
    }

    private static void otherSlotIsLeftAlone() {
        Bench.sentence("slot (m modulo 2) is written");
        int[][] slots = {
            {0, 0, 0, 0}, {0, 0, 0, 0}, {4, 0, 0, 0}, {4, 5, 0, 0}, {4, 5, -6, 0}, {4, 5, -6, 2},
        };
        for (int words = 0; words <= 5; words++) {
            LayerFeeder feeder = new LayerFeeder(1000);
            Bench.doWhole(feeder, "G1 X3 Y2 E-1 F1000");
            feeder.cut(words);
            Bench.doWhole(feeder, "G1 X4 Y5 E-6");
            Bench.dueSlot("cut(" + words + ") at the second", feeder, 0, slots[words]);
            Bench.dueSlot("cut(" + words + ") at the second", feeder, 1, 3, 2, -1, 1);
        }
    }

    private static void powerGoesOffWithTheNextBlock() {
        Bench.sentence("when the next block ends, and the power is OFF");
        for (int words = 0; words <= 5; words++) {
            LayerFeeder feeder = Bench.feederWith(1000, "G1 X2 F1000", "G1 X9");
            feeder.cut(words);
            Bench.due("run(36)", feeder.run(36), 1);
            Bench.due("busy(): the power is on", feeder.busy(), true);
            Bench.due("left()", feeder.left(), 2);
            int last = 0;
            int steps = 0;
            for (int i = 0; i < 30 && steps < 1; i++) {
                last = feeder.tick();
                steps += last == 0 ? 0 : 1;
            }
            Bench.due("the bits of the last tick", last, 1);
            Bench.dueThrow("tick() when off", IllegalStateException.class, feeder::tick);
            Bench.dueThrow("home() when off", IllegalStateException.class, feeder::home);
            Bench.duePlace("off", feeder, 2, 0, 0);
        }
    }

    private static void powerGoesOffWithADwell() {
        Bench.sentence("when the next block ends, and the power is OFF");
        LayerFeeder feeder = Bench.feederWith(1000, "G4 P2");
        feeder.cut(0);
        Bench.due("tick()", feeder.tick(), 0);
        Bench.due("hold(false): the power is on", feeder.hold(false), false);
        Bench.due("tick()", feeder.tick(), 0);
        Bench.dueThrow("hold(false)", IllegalStateException.class, () -> feeder.hold(false));
        LayerFeeder idle = new LayerFeeder(1000);
        idle.cut(0);
        Bench.due("run(20000): no block ends", idle.run(20000), 0);
        Bench.due("tick(): the power is on", idle.tick(), 0);
    }

    private static void rowIsEmptyThen() {
        Bench.sentence("nothing is in the row, the commanded place is the place, the text is empty,"
            + " no cut is set, and it is not held");
        LayerFeeder feeder = Bench.feederWith(1000, "G1 X1 Y1 E1 F1000", "G1 X5", "G4 P9");
        Bench.write(feeder, "N3 G1");
        feeder.cut(2);
        feeder.run(10);
        feeder.hold(true);
        Bench.due("run(20000)", feeder.run(20000), 1);
        Bench.due("left()", feeder.left(), 0);
        Bench.due("busy()", feeder.busy(), false);
        Bench.dueThrow("plan(0, 0)", IndexOutOfBoundsException.class, () -> feeder.plan(0, 0));
        Bench.duePlace("off", feeder, 1, 1, 1);
        Bench.dueCommanded("off", feeder, 1, 1, 1);
        Bench.due("wipe()", feeder.wipe(), 0);
        Bench.due("wanted()", feeder.wanted(), 3);
        feeder.power();
        Bench.due("hold(false): not held", feeder.hold(false), false);
        feeder.home();
        Bench.doWhole(feeder, "G4 P1");
        Bench.doWhole(feeder, "G4 P1");
        Bench.due("tick(): no cut is set", feeder.tick(), 0);
        Bench.due("slot(0, 3)", feeder.slot(0, 3), 2);
    }

    private static void cutIsForOneBlock() {
        Bench.sentence("A CUT may be SET: then, when the next block ends");
        LayerFeeder feeder = Bench.feederWith(1000, "G4 P1", "G4 P1", "G4 P1");
        feeder.tick();
        feeder.cut(1);
        Bench.dueSlot("the block that has ended stays", feeder, 1, 0, 0, 0, 1);
        feeder.tick();
        Bench.dueThrow("tick()", IllegalStateException.class, feeder::tick);
        Bench.dueSlot("the next one is cut", feeder, 0, 0, 0, 0, 0);
        Bench.dueSlot("the one before stays", feeder, 1, 0, 0, 0, 1);
    }

    private static void cutIsSetAnew() {
        Bench.sentence("Sets a cut after so many words, in place of one that is set; words = -1"
            + " sets none");
        LayerFeeder feeder = new LayerFeeder(1000);
        feeder.cut(-1);
        feeder.cut(0);
        feeder.cut(-1);
        Bench.doWhole(feeder, "G4 P1");
        Bench.dueSlot("none is set", feeder, 1, 0, 0, 0, 1);
        Bench.doWhole(feeder, "G1 X1 F1000");
        Bench.dueSlot("none is set", feeder, 0, 1, 0, 0, 2);
        feeder.cut(5);
        feeder.cut(1);
        Bench.order(feeder, "G4 P2");
        feeder.tick();
        feeder.cut(2);
        feeder.tick();
        Bench.dueThrow("cut within a block", IllegalStateException.class, feeder::tick);
        Bench.dueSlot("the last one counts", feeder, 1, 1, 0, 0, 0);
    }

    private static void cutOutlastsStopAndHold() {
        Bench.sentence("A CUT may be SET: then, when the next block ends");
        LayerFeeder feeder = Bench.feederWith(1000, "G4 P9");
        feeder.cut(0);
        feeder.tick();
        feeder.stop();
        feeder.hold(true);
        feeder.hold(false);
        Bench.order(feeder, "G91");
        Bench.due("tick(): no block has ended", feeder.tick(), 0);
        Bench.order(feeder, "G4 P1");
        feeder.tick();
        Bench.dueThrow("tick(): one has", IllegalStateException.class, feeder::tick);
    }

    private static void cutLooksAtItsArgument() {
        Bench.sentence("Illegal argument: words is not -1 .. 5; illegal state");
        LayerFeeder feeder = new LayerFeeder(1000);
        LayerFeeder off = Bench.cutOff(5);
        LayerFeeder lost = Bench.cutOff(5);
        lost.power();
        int[] wrong = {Integer.MIN_VALUE, -3, -2, 6, 7, 256, Integer.MAX_VALUE};
        for (int w : wrong) {
            Bench.dueThrow("cut(" + w + ")", IllegalArgumentException.class, () -> feeder.cut(w));
            Bench.dueThrow("cut(" + w + ") off", IllegalArgumentException.class, () -> off.cut(w));
            Bench.dueThrow("cut(" + w + ") lost", IllegalArgumentException.class,
                () -> lost.cut(w));
        }
        for (int words = -1; words <= 5; words++) {
            int w = words;
            feeder.cut(w);
            Bench.dueThrow("cut(" + w + ") off", IllegalStateException.class, () -> off.cut(w));
            Bench.dueThrow("cut(" + w + ") lost", IllegalStateException.class, () -> lost.cut(w));
        }
        feeder.cut(-1);
        Bench.doWhole(feeder, "G4 P1");
        Bench.due("tick(): no cut was set", feeder.tick(), 0);
        lost.home();
        Bench.doWhole(lost, "G4 P1");
        Bench.due("tick(): no cut was set", lost.tick(), 0);
    }

    private static void slotLooksAtItsArguments() {
        Bench.sentence("Index out of bounds: there is no such slot or number");
        LayerFeeder off = Bench.cutAtTheThird(5);
        int[] numbers = {Integer.MIN_VALUE, -4, -1, 0, 1, 2, 3, 4, 5, Integer.MAX_VALUE};
        for (int slot : numbers) {
            for (int k : numbers) {
                if (slot < 0 || slot > 1 || k < 0 || k > 3) {
                    Bench.dueThrow("slot(" + slot + ", " + k + ")", IndexOutOfBoundsException.class,
                        () -> off.slot(slot, k));
                }
            }
        }
        Bench.dueSlot("off", off, 0, 4, 5, -6, 2);
        Bench.dueSlot("off", off, 1, 7, 8, -9, 3);
    }
}
