import java.util.NoSuchElementException;

/** Promises 15 (cut), 16 (power), 17 (home), 18 (resume) and 19 (slot). */
public final class PowerTest {
    public static void main(String[] args) {
        slotsAreWrittenInTurn();
        slotsAreWrittenWordByWord();
        firstWordTakesTheOldNumberAway();
        powerGoesOffWithTheBlock();
        cutIsSetAnew();
        cutLooksAtItsArgument();
        powerComesAgain();
        homeEndsBeingLost();
        resumeEndsBeingLost();
        resumeNeedsASlot();
        blocksAreCountedOn();
        slotLooksAtItsArguments();
        Bench.end();
    }

    private static void end(LayerFeeder feeder, String command) {
        Bench.order(feeder, command);
        feeder.run(20000);
    }

    /** Two blocks have ended, and the third one was cut after so many words. */
    private static LayerFeeder cutAtTheThird(int words) {
        LayerFeeder feeder = new LayerFeeder(1000);
        end(feeder, "G1 X3 Y2 E-1 F1000");
        end(feeder, "G1 X4 Y5 E-6");
        feeder.cut(words);
        end(feeder, "G1 X7 Y8 E-9");
        return feeder;
    }

    private static void slotsAreWrittenInTurn() {
        LayerFeeder feeder = new LayerFeeder(1000);
        end(feeder, "G1 X3 Y2 E-1 F1000");
        Bench.dueSlot("1 block", feeder, 1, 3, 2, -1, 1);
        Bench.dueSlot("1 block", feeder, 0, 0, 0, 0, 0);
        end(feeder, "G4 P1");
        Bench.dueSlot("2 blocks", feeder, 0, 3, 2, -1, 2);
        end(feeder, "G1 X7 Y8 E-9");
        Bench.dueSlot("3 blocks", feeder, 0, 3, 2, -1, 2);
        Bench.dueSlot("3 blocks", feeder, 1, 7, 8, -9, 3);
        Bench.order(feeder, "G92 X0 Y0 E0");
        end(feeder, "G1 X1");
        Bench.dueSlot("4 blocks: steps, not values", feeder, 0, 8, 8, -9, 4);
        Bench.order(feeder, "G1 X9");
        feeder.tick();
        Bench.dueSlot("a block at work", feeder, 1, 7, 8, -9, 3);
    }

    private static void slotsAreWrittenWordByWord() {
        int[][] slots = {
            {0, 0, 0, 0}, {0, 0, 0, 0}, {3, 0, 0, 0}, {3, 2, 0, 0}, {3, 2, -1, 0}, {3, 2, -1, 1},
        };
        for (int words = 0; words <= 5; words++) {
            LayerFeeder feeder = Bench.cutOff(words);
            Bench.dueSlot("cut(" + words + ")", feeder, 1, slots[words]);
            Bench.dueSlot("cut(" + words + ")", feeder, 0, 0, 0, 0, 0);
            Bench.dueThrow("tick()", IllegalStateException.class, feeder::tick);
        }
    }

    private static void firstWordTakesTheOldNumberAway() {
        int[][] slots = {
            {3, 2, -1, 1}, {3, 2, -1, 0}, {7, 2, -1, 0}, {7, 8, -1, 0}, {7, 8, -9, 0}, {7, 8, -9, 3},
        };
        for (int words = 0; words <= 5; words++) {
            LayerFeeder feeder = cutAtTheThird(words);
            Bench.dueSlot("cut(" + words + ")", feeder, 1, slots[words]);
            Bench.dueSlot("cut(" + words + ")", feeder, 0, 4, 5, -6, 2);
            feeder.power();
            Bench.due("resume()", feeder.resume(), words == 5 ? 3 : 2);
            int third = words == 5 ? 3 : 0;
            Bench.duePlace("cut(" + words + ")", feeder, 4 + third, 5 + third, -6 - third);
        }
    }

    private static void powerGoesOffWithTheBlock() {
        LayerFeeder feeder = new LayerFeeder(1000);
        Bench.order(feeder, "G1 X1 F1000");
        Bench.order(feeder, "G1 X5");
        Bench.order(feeder, "G4 P9");
        Bench.write(feeder, "N3 G1");
        feeder.cut(2);
        feeder.run(10);
        feeder.hold(true);
        int bits = 0;
        for (int i = 0; i < 50 && bits == 0; i++) {
            bits = feeder.tick();
        }
        Bench.due("the bits of the last tick", bits, 1);
        Bench.due("left()", feeder.left(), 0);
        Bench.due("busy()", feeder.busy(), false);
        Bench.due("wipe()", feeder.wipe(), 0);
        Bench.duePlace("off", feeder, 1, 0, 0);
        Bench.dueCommanded("off", feeder, 1, 0, 0);
        Bench.due("wanted()", feeder.wanted(), 3);
        feeder.power();
        Bench.due("hold(false): not held", feeder.hold(false), false);
        feeder.home();
        end(feeder, "G4 P1");
        end(feeder, "G4 P1");
        Bench.due("no cut is set", feeder.tick(), 0);
    }

    private static void cutIsSetAnew() {
        LayerFeeder feeder = new LayerFeeder(1000);
        feeder.cut(0);
        feeder.cut(-1);
        end(feeder, "G4 P1");
        Bench.dueSlot("none is set", feeder, 1, 0, 0, 0, 1);
        feeder.cut(5);
        feeder.cut(1);
        Bench.order(feeder, "G4 P2");
        feeder.tick();
        feeder.cut(0);
        feeder.tick();
        Bench.dueThrow("cut within a block", IllegalStateException.class, feeder::tick);
        Bench.dueSlot("the last one counts", feeder, 0, 0, 0, 0, 0);
    }

    private static void cutLooksAtItsArgument() {
        LayerFeeder feeder = new LayerFeeder(1000);
        LayerFeeder off = Bench.cutOff(5);
        int[] wrong = {-2, 6, Integer.MIN_VALUE, Integer.MAX_VALUE};
        for (int words : wrong) {
            Bench.dueThrow("cut(" + words + ")", IllegalArgumentException.class,
                () -> feeder.cut(words));
            Bench.dueThrow("cut(" + words + ") when off", IllegalArgumentException.class,
                () -> off.cut(words));
        }
        end(feeder, "G4 P1");
        Bench.due("tick(): no cut was set", feeder.tick(), 0);
        Bench.dueThrow("cut(-1) when off", IllegalStateException.class, () -> off.cut(-1));
        Bench.dueThrow("cut(5) when off", IllegalStateException.class, () -> off.cut(5));
        off.power();
        Bench.dueThrow("cut(5) when lost", IllegalStateException.class, () -> off.cut(5));
        off.home();
        end(off, "G4 P1");
        Bench.due("tick(): no cut was set", off.tick(), 0);
    }

    private static void powerComesAgain() {
        LayerFeeder feeder = new LayerFeeder(1000);
        Bench.dueThrow("power() when on", IllegalStateException.class, feeder::power);
        Bench.order(feeder, "G91");
        Bench.order(feeder, "G92 X100");
        feeder.cut(5);
        end(feeder, "G1 X30 Y2 E-1 F1000");
        feeder.power();
        Bench.dueThrow("power() when lost", IllegalStateException.class, feeder::power);
        Bench.due("wanted()", feeder.wanted(), 0);
        Bench.duePlace("lost", feeder, 0, 0, 0);
        Bench.dueCommanded("lost", feeder, 0, 0, 0);
        Bench.dueSlot("lost", feeder, 1, 30, 2, -1, 1);
        feeder.resume();
        Bench.order(feeder, "G1 X40");
        Bench.dueCommanded("values that are steps", feeder, 40, 2, -1);
        Bench.due("the speed, squared", feeder.plan(0, 3), 10000);
        Bench.dueThrow("power() when on", IllegalStateException.class, feeder::power);
    }

    private static void homeEndsBeingLost() {
        LayerFeeder feeder = new LayerFeeder(1000);
        Bench.dueThrow("home() when not lost", IllegalStateException.class, feeder::home);
        LayerFeeder off = Bench.cutOff(5);
        Bench.dueThrow("home() when off", IllegalStateException.class, off::home);
        off.power();
        off.home();
        Bench.duePlace("home", off, 0, 0, 0);
        Bench.dueCommanded("home", off, 0, 0, 0);
        Bench.dueThrow("home() again", IllegalStateException.class, off::home);
        Bench.dueThrow("resume() behind home()", IllegalStateException.class, off::resume);
        Bench.order(off, "G1 X1 F1000");
        Bench.due("run(22)", off.run(22), 1);
        Bench.duePlace("behind home()", off, 1, 0, 0);
    }

    private static void resumeEndsBeingLost() {
        LayerFeeder feeder = new LayerFeeder(1000);
        Bench.dueThrow("resume() when not lost", IllegalStateException.class, feeder::resume);
        LayerFeeder off = cutAtTheThird(5);
        Bench.dueThrow("resume() when off", IllegalStateException.class, off::resume);
        off.power();
        Bench.due("resume()", off.resume(), 3);
        Bench.duePlace("resumed", off, 7, 8, -9);
        Bench.dueCommanded("resumed", off, 7, 8, -9);
        Bench.dueThrow("resume() again", IllegalStateException.class, off::resume);
        Bench.dueThrow("home() behind resume()", IllegalStateException.class, off::home);
        Bench.order(off, "G1 X8 F1000");
        Bench.due("run(22)", off.run(22), 1);
        Bench.duePlace("behind resume()", off, 8, 8, -9);
        LayerFeeder even = new LayerFeeder(1000);
        end(even, "G1 X5 F1000");
        even.cut(5);
        end(even, "G1 X6");
        even.power();
        Bench.due("resume() from slot 0", even.resume(), 2);
        Bench.duePlace("resumed from slot 0", even, 6, 0, 0);
    }

    private static void resumeNeedsASlot() {
        for (int words = 0; words < 5; words++) {
            LayerFeeder feeder = Bench.cutOff(words);
            Bench.dueThrow("resume() when off", IllegalStateException.class, feeder::resume);
            feeder.power();
            Bench.dueThrow("resume()", NoSuchElementException.class, feeder::resume);
            Bench.dueThrow("still lost: tick()", IllegalStateException.class, feeder::tick);
            feeder.home();
            Bench.due("tick()", feeder.tick(), 0);
        }
    }

    private static void blocksAreCountedOn() {
        for (int words = 0; words <= 5; words++) {
            LayerFeeder feeder = cutAtTheThird(words);
            feeder.power();
            feeder.home();
            end(feeder, "G1 X1");
            int next = words == 5 ? 4 : 3;
            Bench.dueSlot("counted on", feeder, next % 2, 1, 0, 0, next);
            end(feeder, "G1 X2");
            Bench.dueSlot("counted on", feeder, (next + 1) % 2, 2, 0, 0, next + 1);
        }
    }

    private static void slotLooksAtItsArguments() {
        LayerFeeder feeder = new LayerFeeder(1000);
        int[][] wrong = {
            {-1, 0}, {2, 0}, {0, -1}, {0, 4}, {1, -1}, {1, 4}, {-1, 4}, {2, -4},
            {Integer.MAX_VALUE, 0}, {0, Integer.MIN_VALUE}, {Integer.MIN_VALUE, 3},
        };
        for (int[] w : wrong) {
            Bench.dueThrow("slot(" + w[0] + ", " + w[1] + ")", IndexOutOfBoundsException.class,
                () -> feeder.slot(w[0], w[1]));
        }
        LayerFeeder off = Bench.cutOff(5);
        Bench.due("slot(1, 0) when off", off.slot(1, 0), 3);
    }
}
