import java.util.NoSuchElementException;

/** POWER comes again, and promises 16 (power), 17 (home) and 18 (resume). */
public final class PowerTest {
    public static void main(String[] args) {
        powerNeedsToBeOff();
        numbersOfFramesAreFrom0();
        valuesAreStepsAgain();
        speedIs100Again();
        placeIs0Everywhere();
        itIsLostThen();
        blocksAreCountedOn();
        blocksAreCountedOnAgainAndAgain();
        homeEndsBeingLost();
        homeNeedsToBeLost();
        resumeTakesTheGreatestNumber();
        resumeGoesOnFromThere();
        resumeNeedsToBeLost();
        resumeNeedsASlot();
        Bench.end();
    }

    /** A feeder whose power came again, all that it was told before being unusual. */
    private static LayerFeeder lostFeeder() {
        LayerFeeder feeder = Bench.feederWith(1000, "G91", "G92 X100 Y200 E300");
        feeder.cut(5);
        Bench.doWhole(feeder, "G1 X30 Y20 E-10 F1000");
        feeder.power();
        return feeder;
    }

    private static void powerNeedsToBeOff() {
        Bench.sentence("Power comes again. Illegal state: it is on");
        LayerFeeder feeder = new LayerFeeder(1000);
        Bench.dueThrow("power() when new", IllegalStateException.class, feeder::power);
        LayerFeeder off = Bench.cutOff(5);
        off.power();
        Bench.dueThrow("power() when lost", IllegalStateException.class, off::power);
        off.home();
        Bench.dueThrow("power() behind home()", IllegalStateException.class, off::power);
        LayerFeeder again = Bench.cutOff(5);
        again.power();
        again.resume();
        Bench.dueThrow("power() behind resume()", IllegalStateException.class, again::power);
        again.cut(0);
        Bench.doWhole(again, "G4 P1");
        again.power();
        Bench.due("resume() for the second time", again.resume(), 1);
    }

    private static void numbersOfFramesAreFrom0() {
        Bench.sentence("numbers of frames from 0");
        LayerFeeder feeder = lostFeeder();
        Bench.due("wanted()", feeder.wanted(), 0);
        feeder.home();
        Bench.due("N3", Bench.send(feeder, "N3 G90"), LayerFeeder.REPEAT);
        Bench.due("N0", Bench.send(feeder, "N0 G90"), 0);
        Bench.due("N1", Bench.send(feeder, "N1 G90"), 1);
    }

    private static void valuesAreStepsAgain() {
        Bench.sentence("values (G 90) that are steps");
        LayerFeeder feeder = lostFeeder();
        feeder.resume();
        Bench.order(feeder, "G1 X40");
        Bench.dueCommanded("values of X", feeder, 40, 20, -10);
        Bench.order(feeder, "G1 Y40");
        Bench.dueCommanded("values of Y", feeder, 40, 40, -10);
        Bench.order(feeder, "G1 E40");
        Bench.dueCommanded("values of E", feeder, 40, 40, 40);
        Bench.order(feeder, "G1 X40 Y40 E40");
        Bench.due("left(): no differences", feeder.left(), 3);
    }

    private static void speedIs100Again() {
        Bench.sentence("speed 100");
        LayerFeeder feeder = lostFeeder();
        feeder.home();
        Bench.order(feeder, "G1 X1");
        Bench.due("the top", feeder.plan(0, 3), 10000);
    }

    private static void placeIs0Everywhere() {
        Bench.sentence("the place is 0 everywhere");
        LayerFeeder feeder = Bench.cutOff(5);
        Bench.duePlace("off", feeder, 3, 2, -1);
        Bench.dueCommanded("off", feeder, 3, 2, -1);
        feeder.power();
        Bench.duePlace("lost", feeder, 0, 0, 0);
        Bench.dueCommanded("lost", feeder, 0, 0, 0);
        Bench.dueSlot("slots outlast it", feeder, 1, 3, 2, -1, 1);
    }

    private static void itIsLostThen() {
        Bench.sentence("and it is LOST; illegal state: it is lost");
        LayerFeeder feeder = lostFeeder();
        Bench.dueThrow("tick()", IllegalStateException.class, feeder::tick);
        Bench.dueThrow("receive()", IllegalStateException.class, feeder::receive);
        Bench.due("hold(true)", feeder.hold(true), true);
        Bench.due("hold(false)", feeder.hold(false), true);
        Bench.due("left()", feeder.left(), 0);
        Bench.due("busy()", feeder.busy(), false);
    }

    private static void blocksAreCountedOn() {
        Bench.sentence("Blocks that end are counted on from the greatest fourth number of both slots");
        for (int words = 0; words <= 5; words++) {
            LayerFeeder feeder = Bench.cutAtTheThird(words);
            feeder.power();
            feeder.home();
            Bench.doWhole(feeder, "G1 X1");
            int next = words == 5 ? 4 : 3;
            Bench.dueSlot("counted on", feeder, next % 2, 1, 0, 0, next);
            Bench.doWhole(feeder, "G1 X2");
            Bench.dueSlot("counted on", feeder, (next + 1) % 2, 2, 0, 0, next + 1);
            LayerFeeder first = Bench.cutOff(words);
            first.power();
            first.home();
            Bench.doWhole(first, "G1 X1");
            next = words == 5 ? 2 : 1;
            Bench.dueSlot("counted on from the first", first, next % 2, 1, 0, 0, next);
        }
    }

    private static void blocksAreCountedOnAgainAndAgain() {
        Bench.sentence("Blocks that end are counted on from the greatest fourth number of both slots");
        LayerFeeder feeder = Bench.cutAtTheThird(4);
        for (int words = 0; words <= 4; words++) {
            feeder.power();
            Bench.due("resume()", feeder.resume(), 2);
            Bench.duePlace("resumed", feeder, 4, 5, -6);
            feeder.cut(words);
            Bench.doWhole(feeder, "G4 P1");
            Bench.due("slot(1, 3)", feeder.slot(1, 3), 0);
        }
        for (int m = 3; m <= 7; m++) {
            feeder.power();
            Bench.due("resume()", feeder.resume(), m - 1);
            feeder.cut(5);
            Bench.doWhole(feeder, "G4 P1");
            Bench.dueSlot("counted on", feeder, m % 2, 4, 5, -6, m);
        }
    }

    private static void homeEndsBeingLost() {
        Bench.sentence("Ends being lost, the place being 0 everywhere");
        LayerFeeder feeder = Bench.cutOff(5);
        feeder.power();
        feeder.home();
        Bench.duePlace("home", feeder, 0, 0, 0);
        Bench.dueCommanded("home", feeder, 0, 0, 0);
        Bench.due("tick()", feeder.tick(), 0);
        Bench.order(feeder, "G1 X1 F1000");
        Bench.due("run(22)", feeder.run(22), 1);
        Bench.duePlace("behind home()", feeder, 1, 0, 0);
        Bench.dueCommanded("behind home()", feeder, 1, 0, 0);
    }

    private static void homeNeedsToBeLost() {
        Bench.sentence("Illegal state: it is not lost, or the power is off");
        LayerFeeder feeder = new LayerFeeder(1000);
        Bench.doWhole(feeder, "G1 X3 F1000");
        Bench.dueThrow("home() when not lost", IllegalStateException.class, feeder::home);
        Bench.duePlace("behind it", feeder, 3, 0, 0);
        LayerFeeder off = Bench.cutOff(5);
        Bench.dueThrow("home() when off", IllegalStateException.class, off::home);
        off.power();
        off.home();
        Bench.dueThrow("home() again", IllegalStateException.class, off::home);
        Bench.dueThrow("resume() behind home()", IllegalStateException.class, off::resume);
    }

    private static void resumeTakesTheGreatestNumber() {
        Bench.sentence("those of the slot with the greatest fourth number: this number");
        for (int words = 0; words <= 5; words++) {
            LayerFeeder third = Bench.cutAtTheThird(words);
            third.power();
            Bench.due("resume() behind cut(" + words + ")", third.resume(), words == 5 ? 3 : 2);
            int more = words == 5 ? 3 : 0;
            Bench.duePlace("resumed", third, 4 + more, 5 + more, -6 - more);
            Bench.dueCommanded("resumed", third, 4 + more, 5 + more, -6 - more);
            LayerFeeder second = new LayerFeeder(1000);
            Bench.doWhole(second, "G1 X5 Y6 E7 F1000");
            second.cut(words);
            Bench.doWhole(second, "G1 X6 Y8 E9");
            second.power();
            Bench.due("resume() behind cut(" + words + ")", second.resume(), words == 5 ? 2 : 1);
            Bench.duePlace("resumed", second, words == 5 ? 6 : 5, words == 5 ? 8 : 6,
                words == 5 ? 9 : 7);
        }
        LayerFeeder first = Bench.cutOff(5);
        first.power();
        Bench.due("resume() behind one block", first.resume(), 1);
        Bench.duePlace("resumed", first, 3, 2, -1);
    }

    private static void resumeGoesOnFromThere() {
        Bench.sentence("Ends being lost, the place and the commanded place being those of the slot");
        LayerFeeder feeder = Bench.cutAtTheThird(5);
        feeder.power();
        feeder.resume();
        Bench.due("tick()", feeder.tick(), 0);
        Bench.order(feeder, "G1 X8 F1000");
        Bench.due("its length", feeder.plan(0, 2), 1);
        Bench.due("run(22)", feeder.run(22), 1);
        Bench.duePlace("behind resume()", feeder, 8, 8, -9);
        Bench.dueSlot("behind resume()", feeder, 0, 8, 8, -9, 4);
    }

    private static void resumeNeedsToBeLost() {
        Bench.sentence("Illegal state: it is not lost, or the power is off");
        LayerFeeder feeder = new LayerFeeder(1000);
        Bench.dueThrow("resume() when new", IllegalStateException.class, feeder::resume);
        Bench.doWhole(feeder, "G1 X3 F1000");
        Bench.dueThrow("resume() when not lost", IllegalStateException.class, feeder::resume);
        LayerFeeder off = Bench.cutOff(5);
        Bench.dueThrow("resume() when off", IllegalStateException.class, off::resume);
        off.power();
        off.resume();
        Bench.dueThrow("resume() again", IllegalStateException.class, off::resume);
        Bench.dueThrow("home() behind resume()", IllegalStateException.class, off::home);
    }

    private static void resumeNeedsASlot() {
        Bench.sentence("no such element: both slots have 0 there");
        for (int words = 0; words < 5; words++) {
            LayerFeeder feeder = Bench.cutOff(words);
            Bench.dueThrow("resume() when off", IllegalStateException.class, feeder::resume);
            feeder.power();
            Bench.dueThrow("resume()", NoSuchElementException.class, feeder::resume);
            Bench.duePlace("still lost", feeder, 0, 0, 0);
            Bench.dueThrow("tick(): still lost", IllegalStateException.class, feeder::tick);
            Bench.dueThrow("resume() again", NoSuchElementException.class, feeder::resume);
            feeder.home();
            Bench.due("tick()", feeder.tick(), 0);
            Bench.dueThrow("resume() behind home()", IllegalStateException.class, feeder::resume);
        }
    }
}
