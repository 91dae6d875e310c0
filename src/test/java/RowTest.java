/** The ROW of at most 8 blocks, and promises 4 (FULL), 10 (left) and 14 (stop). */
public final class RowTest {
    public static void main(String[] args) {
        rowHolds8();
        dwellsFillItToo();
        blockAtWorkIsInTheRow();
        commandsWithoutABlockAreNeverFull();
        wrongCommandsAreNotFull();
        fullDoesNothing();
        oneMoreComesBehindOneThatEnded();
        blocksAreDoneInTheirOrder();
        stopTellsHowMany();
        stopTakesThatAtWork();
        stopLeavesHoldAndCutAndSlots();
        Bench.end();
    }

    private static LayerFeeder feederWithMoves(int count) {
        LayerFeeder feeder = Bench.feederWith(1000, "G1 F1000");
        for (int i = 1; i <= count; i++) {
            Bench.order(feeder, "G1 X" + i);
        }
        return feeder;
    }

    private static void rowHolds8() {
        Bench.sentence("at most 8 are in the ROW");
        LayerFeeder feeder = new LayerFeeder(100);
        for (int i = 1; i <= 8; i++) {
            Bench.due("left() before", feeder.left(), i - 1);
            Bench.order(feeder, i % 3 == 0 ? "G4 P9" : "G1 X" + i);
            Bench.due("left() behind", feeder.left(), i);
            Bench.dueCommanded("behind block " + i, feeder, i % 3 == 0 ? i - 1 : i, 0, 0);
        }
        Bench.sentence("FULL: a block would come, and there are 8 in the row");
        Bench.orderInVain(feeder, "G1 X9", LayerFeeder.FULL);
        Bench.orderInVain(feeder, "G4 P1", LayerFeeder.FULL);
        Bench.due("left()", feeder.left(), 8);
    }

    private static void dwellsFillItToo() {
        Bench.sentence("FULL: a block would come, and there are 8 in the row");
        LayerFeeder feeder = new LayerFeeder(100);
        for (int i = 1; i <= 8; i++) {
            Bench.order(feeder, "G4 P" + i);
        }
        Bench.orderInVain(feeder, "G4 P9", LayerFeeder.FULL);
        Bench.orderInVain(feeder, "G1 X1", LayerFeeder.FULL);
        for (int i = 0; i < 8; i++) {
            Bench.due("plan(" + i + ", 2)", feeder.plan(i, 2), i + 1);
        }
    }

    private static void blockAtWorkIsInTheRow() {
        Bench.sentence("at most 8 are in the ROW, that AT WORK included");
        LayerFeeder feeder = Bench.feederWith(100, "G4 P2");
        feeder.tick();
        Bench.due("left() at work", feeder.left(), 1);
        for (int i = 1; i <= 7; i++) {
            Bench.order(feeder, "G1 X" + i);
        }
        Bench.due("left()", feeder.left(), 8);
        Bench.orderInVain(feeder, "G1 X8", LayerFeeder.FULL);
        feeder.tick();
        Bench.due("left() when the first has ended", feeder.left(), 7);
        Bench.order(feeder, "G1 X8");
        Bench.orderInVain(feeder, "G1 X9", LayerFeeder.FULL);
    }

    private static void commandsWithoutABlockAreNeverFull() {
        Bench.sentence("FULL: a block would come");
        LayerFeeder feeder = feederWithMoves(8);
        Bench.order(feeder, "G1 X8 Y0 E0");
        Bench.order(feeder, "G1");
        Bench.order(feeder, "G1 F50");
        Bench.order(feeder, "G92 X0");
        Bench.order(feeder, "G1 X0");
        Bench.order(feeder, "G91");
        Bench.order(feeder, "G1 Y0");
        Bench.due("left()", feeder.left(), 8);
        Bench.orderInVain(feeder, "G1 Y1", LayerFeeder.FULL);
        feeder.stop();
        Bench.order(feeder, "G1 Y1");
        Bench.due("the top at the speed told meanwhile", feeder.plan(0, 3), 2500);
    }

    private static void wrongCommandsAreNotFull() {
        Bench.sentence("WRONG: the command is not right, or its move not possible");
        LayerFeeder feeder = feederWithMoves(8);
        String[] wrong = {"G4 P201", "G4 P0", "G4", "G1 X9 X9", "G1 X509", "G1 Y-1", "G5 X1", ""};
        for (String command : wrong) {
            Bench.orderInVain(feeder, command, LayerFeeder.WRONG);
        }
        Bench.sentence("REPEAT: it is no frame, or not the one that is wanted");
        Bench.due("an older frame", Bench.send(feeder, "N0 G1 X9"), LayerFeeder.REPEAT);
        Bench.due("no frame", Bench.receive(feeder, "G1 X9"), LayerFeeder.REPEAT);
        Bench.orderInVain(feeder, "G1 X508", LayerFeeder.FULL);
    }

    private static void fullDoesNothing() {
        Bench.sentence("REPEAT or FULL, when nothing was done, and the same number is wanted still");
        LayerFeeder feeder = feederWithMoves(8);
        int number = feeder.wanted();
        for (int again = 0; again < 3; again++) {
            Bench.due("a block", Bench.send(feeder, "N" + number + " G1 X19 Y7 E3 F9"), -2);
            Bench.due("wanted()", feeder.wanted(), number);
            Bench.due("wipe()", feeder.wipe(), 0);
        }
        Bench.dueCommanded("behind FULL", feeder, 8, 0, 0);
        Bench.dueEntries("behind FULL", feeder, 0, 2000, 4000, 6000, 8000, 6000, 4000, 2000);
        feeder.stop();
        Bench.due("the same one", Bench.send(feeder, "N" + number + " G1 X1"), number);
        Bench.due("its top", feeder.plan(0, 3), 1000000);
    }

    private static void oneMoreComesBehindOneThatEnded() {
        Bench.sentence("When a block ends, it is out of the row");
        LayerFeeder feeder = feederWithMoves(8);
        Bench.due("run(21)", feeder.run(21), 0);
        Bench.orderInVain(feeder, "G1 X9", LayerFeeder.FULL);
        Bench.due("tick()", feeder.tick(), 1);
        Bench.due("left()", feeder.left(), 7);
        Bench.order(feeder, "G1 X9");
        Bench.orderInVain(feeder, "G1 X10", LayerFeeder.FULL);
        Bench.due("left()", feeder.left(), 8);
    }

    /** More blocks than fit at once, so that the row is gone through again and again. */
    private static void blocksAreDoneInTheirOrder() {
        Bench.sentence("BLOCKS are done in their order");
        for (int kept = 1; kept <= 8; kept++) {
            LayerFeeder feeder = Bench.feederWith(1000, "G91");
            int added = 0;
            for (int done = 0; done < 20; done++) {
                while (added < 20 && feeder.left() < kept) {
                    added++;
                    Bench.order(feeder, added % 3 == 0 ? "G4 P" + added : "G1 E" + added);
                }
                Bench.due("block " + done, feeder.plan(0, 2), done + 1);
                int last = feeder.left() - 1;
                Bench.due("the last block", feeder.plan(last, 2), added);
                Bench.due("its top", feeder.plan(last, 3), added % 3 == 0 ? 0 : 10000);
                doFirst(feeder);
            }
            Bench.due("left()", feeder.left(), 0);
            Bench.duePlace("behind all", feeder, 0, 0, 210 - 63);
        }
    }

    private static void doFirst(LayerFeeder feeder) {
        feeder.hold(false);
        feeder.tick();
        feeder.hold(true);
        feeder.run(20000);
    }

    private static void stopTellsHowMany() {
        Bench.sentence("Takes all blocks out of the row, with that at work: how many");
        for (int count = 0; count <= 8; count++) {
            LayerFeeder resting = feederWithMoves(count);
            Bench.due("stop() of " + count, resting.stop(), count);
            Bench.due("left()", resting.left(), 0);
            Bench.due("stop() again", resting.stop(), 0);
            LayerFeeder working = feederWithMoves(count);
            working.tick();
            Bench.due("stop() at work", working.stop(), count);
            Bench.due("busy()", working.busy(), false);
            Bench.due("left()", working.left(), 0);
            Bench.due("run(20000)", working.run(20000), 0);
        }
    }

    private static void stopTakesThatAtWork() {
        Bench.sentence("the commanded place is the place then");
        LayerFeeder feeder = Bench.feederWith(1000, "G1 X100 Y50 E-25 F1000", "G4 P9", "G1 X200");
        Bench.due("run(49)", feeder.run(49), 3);
        Bench.due("stop()", feeder.stop(), 3);
        Bench.duePlace("stopped", feeder, 3, 2, -1);
        Bench.dueCommanded("stopped", feeder, 3, 2, -1);
        Bench.due("run(100)", feeder.run(100), 0);
        Bench.order(feeder, "G1 X4");
        Bench.dueCommanded("behind it", feeder, 4, 2, -1);
        Bench.due("a block from the start: run(21)", feeder.run(21), 0);
        Bench.due("tick()", feeder.tick(), 1);
        Bench.duePlace("behind it", feeder, 4, 2, -1);
    }

    private static void stopLeavesHoldAndCutAndSlots() {
        Bench.sentence("Takes all blocks out of the row (nothing more)");
        LayerFeeder feeder = Bench.feederWith(1000, "G1 X5 F1000", "G91");
        Bench.write(feeder, "N2");
        feeder.cut(5);
        feeder.run(30);
        feeder.hold(true);
        Bench.due("stop()", feeder.stop(), 1);
        Bench.dueSlot("no block ended", feeder, 1, 0, 0, 0, 0);
        Bench.due("wanted()", feeder.wanted(), 2);
        Bench.due("wipe()", feeder.wipe(), 2);
        Bench.due("hold(true): it is held still", feeder.hold(true), false);
        feeder.hold(false);
        Bench.order(feeder, "G1 X1");
        Bench.dueCommanded("differences still", feeder, 2, 0, 0);
        Bench.due("the speed still", feeder.plan(0, 3), 1000000);
        feeder.run(22);
        Bench.dueSlot("the first block that ended", feeder, 1, 2, 0, 0, 1);
        Bench.dueThrow("tick(): the cut was set still", IllegalStateException.class, feeder::tick);
    }
}
