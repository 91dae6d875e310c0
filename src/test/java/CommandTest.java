/** Promises 4 (receive), as far as the command goes, 9 (commanded) and 10 (left). */
public final class CommandTest {
    public static void main(String[] args) {
        wrongCommandsTakeTheNumberAlone();
        wordsComeInAnyOrder();
        valuesAndDifferences();
        originIsSetWhereItIsCommanded();
        originOutlastsOtherCommands();
        speedHoldsFromNowOn();
        movesThatAreNotPossible();
        movesToTheEdgesArePossible();
        commandsThatMakeNoBlock();
        dwellsOf1To200();
        rowIsFullWith8();
        fullCountsTheBlockAtWork();
        axesAreLookedAt();
        Bench.end();
    }

    private static void wrongCommandsTakeTheNumberAlone() {
        String[] commands = {
            "", "X1", "P5", "F5", "M3", "N1", "N1 G90", "X1 G1", "G0", "G2", "G-1", "G-90", "G28",
            "G93", "G900", "G99999", "G90 X1", "G90 G90", "G91 F5", "G90 P1", "G4", "G4 X1",
            "G4 P0", "G4 P-0", "G4 P-1", "G4 P201", "G4 P99999", "G4 P5 P5", "G4 P5 X1", "G4 P5 F5",
            "G92 F5", "G92 P5", "G92 X1 X1", "G92 Z1", "G92 X1 Y2 E3 F4", "G1 P1", "G1 Z1",
            "G1 X1 X1", "G1 Y1 X2 Y1", "G1 E1 E1", "G1 F5 F5", "G1 F0", "G1 F-1", "G1 F1001",
            "G1 F-0", "G1 X5 F0", "G1 X5 F1001", "G1 X5 G1", "G1 X5 N3", "G1 X1001 F5", "G1 A1",
            "G1 X5 F500 Z0", "G91 G1 X1",
        };
        LayerFeeder feeder = new LayerFeeder(100);
        for (String command : commands) {
            Bench.orderInVain(feeder, command, LayerFeeder.WRONG);
        }
        Bench.due("left()", feeder.left(), 0);
        Bench.dueCommanded("behind wrong commands", feeder, 0, 0, 0);
        Bench.order(feeder, "G1 X5");
        Bench.order(feeder, "G1 X4");
        Bench.dueCommanded("behind wrong commands, by values", feeder, 4, 0, 0);
        Bench.due("the speed behind wrong commands, squared", feeder.plan(0, 3), 10000);
    }

    private static void wordsComeInAnyOrder() {
        LayerFeeder feeder = new LayerFeeder(100);
        Bench.order(feeder, "G1 F30 E-3 Y2 X1");
        Bench.dueCommanded("E Y X", feeder, 1, 2, -3);
        Bench.due("top", feeder.plan(0, 3), 900);
        Bench.order(feeder, "G01 Y7 F31 X9");
        Bench.dueCommanded("Y F X", feeder, 9, 7, -3);
        Bench.due("top", feeder.plan(1, 3), 961);
        Bench.order(feeder, "G92 E1 X2");
        Bench.order(feeder, "G1 X3 E3");
        Bench.dueCommanded("behind G92 E X", feeder, 10, 7, -1);
    }

    private static void valuesAndDifferences() {
        LayerFeeder feeder = new LayerFeeder(100);
        Bench.order(feeder, "G1 X10 Y20 E30");
        Bench.order(feeder, "G91");
        Bench.order(feeder, "G1 X10 Y-5 E-40");
        Bench.dueCommanded("differences", feeder, 20, 15, -10);
        Bench.order(feeder, "G1 Y1");
        Bench.dueCommanded("one difference", feeder, 20, 16, -10);
        Bench.order(feeder, "G91");
        Bench.order(feeder, "G1 Y1");
        Bench.dueCommanded("G91 again", feeder, 20, 17, -10);
        Bench.order(feeder, "G90");
        Bench.order(feeder, "G1 X10 E-40");
        Bench.dueCommanded("values again", feeder, 10, 17, -40);
    }

    private static void originIsSetWhereItIsCommanded() {
        LayerFeeder feeder = new LayerFeeder(100);
        Bench.order(feeder, "G1 X100 Y50 E20");
        Bench.order(feeder, "G92 X0 Y-7 E99999");
        Bench.dueCommanded("G92 moves nothing", feeder, 100, 50, 20);
        Bench.duePlace("G92 moves nothing", feeder, 0, 0, 0);
        Bench.due("G92 makes no block", feeder.left(), 1);
        Bench.order(feeder, "G1 X-1 Y-6 E99997");
        Bench.dueCommanded("from the new origin", feeder, 99, 51, 18);
        Bench.order(feeder, "G91");
        Bench.order(feeder, "G92 X500");
        Bench.order(feeder, "G1 X1 Y1 E1");
        Bench.dueCommanded("differences know no origin", feeder, 100, 52, 19);
        Bench.order(feeder, "G90");
        Bench.order(feeder, "G1 X500");
        Bench.dueCommanded("G92 tells values under G91 too", feeder, 99, 52, 19);
    }

    private static void originOutlastsOtherCommands() {
        LayerFeeder feeder = new LayerFeeder(1000);
        Bench.order(feeder, "G1 X100 Y50 F1000");
        Bench.order(feeder, "G92 X0");
        Bench.order(feeder, "G92 Y0");
        Bench.order(feeder, "G92");
        Bench.order(feeder, "G1 X1 Y1");
        Bench.dueCommanded("an axis that is not told keeps its origin", feeder, 101, 51, 0);
        Bench.order(feeder, "G90");
        Bench.order(feeder, "G1 X0 Y0");
        Bench.dueCommanded("G90 keeps the origin", feeder, 100, 50, 0);
        feeder.stop();
        Bench.dueCommanded("behind stop()", feeder, 0, 0, 0);
        Bench.order(feeder, "G1 X0 Y-50");
        Bench.dueCommanded("stop() keeps the origin", feeder, 100, 0, 0);
    }

    private static void speedHoldsFromNowOn() {
        LayerFeeder feeder = new LayerFeeder(100);
        Bench.order(feeder, "G1 X1 F1");
        Bench.order(feeder, "G1 X2");
        Bench.order(feeder, "G1 F1000");
        Bench.order(feeder, "G1 X3");
        Bench.order(feeder, "G1 X3 F7");
        Bench.order(feeder, "G1 X4");
        Bench.orderInVain(feeder, "G1 X1000 F9", LayerFeeder.WRONG);
        Bench.order(feeder, "G1 X5");
        int[] tops = {1, 1, 1000000, 49, 49};
        for (int i = 0; i < tops.length; i++) {
            Bench.due("plan(" + i + ", 3)", feeder.plan(i, 3), tops[i]);
        }
    }

    private static void movesThatAreNotPossible() {
        LayerFeeder feeder = new LayerFeeder(100);
        String[] fromZero = {
            "G1 X-1", "G1 Y-1", "G1 X501", "G1 Y501", "G1 E501", "G1 E-501", "G1 X99999",
            "G1 E-99999", "G1 X5 Y5 E501 F9", "G1 X-99999",
        };
        for (String command : fromZero) {
            Bench.orderInVain(feeder, command, LayerFeeder.WRONG);
        }
        Bench.order(feeder, "G1 X500 Y500");
        Bench.orderInVain(feeder, "G1 X1000", LayerFeeder.WRONG);
        Bench.orderInVain(feeder, "G1 Y1000", LayerFeeder.WRONG);
        Bench.order(feeder, "G1 X999 Y999");
        Bench.order(feeder, "G91");
        Bench.orderInVain(feeder, "G1 X1", LayerFeeder.WRONG);
        Bench.orderInVain(feeder, "G1 Y1 X-5", LayerFeeder.WRONG);
        Bench.orderInVain(feeder, "G1 Y-501", LayerFeeder.WRONG);
        Bench.dueCommanded("behind all", feeder, 999, 999, 0);
        Bench.due("left()", feeder.left(), 2);
    }

    private static void movesToTheEdgesArePossible() {
        LayerFeeder down = new LayerFeeder(1000);
        Bench.order(down, "G1 X500 Y500 E-500");
        Bench.order(down, "G1 X999 Y999 E-1000");
        Bench.order(down, "G1 X499 Y499 E-500");
        Bench.order(down, "G1 X0 Y0 E0");
        Bench.dueCommanded("there and back", down, 0, 0, 0);
    }

    private static void commandsThatMakeNoBlock() {
        LayerFeeder feeder = new LayerFeeder(100);
        String[] commands = {
            "G1", "G1 F50", "G1 X0", "G1 X0 Y0 E-0 F60", "G90", "G91", "G1 X0 Y0", "G92", "G92 X5",
        };
        for (String command : commands) {
            Bench.order(feeder, command);
            Bench.due("left() behind " + command, feeder.left(), 0);
        }
        Bench.dueCommanded("behind all", feeder, 0, 0, 0);
    }

    private static void dwellsOf1To200() {
        LayerFeeder feeder = new LayerFeeder(100);
        Bench.order(feeder, "G4 P1");
        Bench.order(feeder, "G4 P200");
        Bench.due("left()", feeder.left(), 2);
        Bench.due("plan(0, 2)", feeder.plan(0, 2), 1);
        Bench.due("plan(1, 2)", feeder.plan(1, 2), 200);
        Bench.due("plan(1, 3)", feeder.plan(1, 3), 0);
        Bench.dueCommanded("dwells", feeder, 0, 0, 0);
    }

    private static void rowIsFullWith8() {
        LayerFeeder feeder = new LayerFeeder(100);
        for (int i = 1; i <= 8; i++) {
            Bench.order(feeder, i % 3 == 0 ? "G4 P9" : "G1 X" + i);
            Bench.due("left()", feeder.left(), i);
        }
        Bench.orderInVain(feeder, "G1 X9 F77", LayerFeeder.FULL);
        Bench.orderInVain(feeder, "G4 P1", LayerFeeder.FULL);
        Bench.due("wipe()", feeder.wipe(), 0);
        Bench.due("left()", feeder.left(), 8);
        Bench.dueCommanded("behind FULL", feeder, 8, 0, 0);
        Bench.due("an older frame", Bench.send(feeder, "N0 G1 X9"), LayerFeeder.REPEAT);
        Bench.orderInVain(feeder, "G4 P201", LayerFeeder.WRONG);
        Bench.orderInVain(feeder, "G1 X9 X9", LayerFeeder.WRONG);
        Bench.orderInVain(feeder, "G1 X1000", LayerFeeder.WRONG);
        Bench.order(feeder, "G1 X8");
        Bench.order(feeder, "G92 X0");
        Bench.order(feeder, "G91");
        Bench.due("stop()", feeder.stop(), 8);
        Bench.order(feeder, "G1 X9");
        Bench.due("the speed behind FULL, squared", feeder.plan(0, 3), 10000);
    }

    private static void fullCountsTheBlockAtWork() {
        LayerFeeder feeder = new LayerFeeder(100);
        Bench.order(feeder, "G4 P2");
        feeder.tick();
        for (int i = 1; i < 8; i++) {
            Bench.order(feeder, "G1 X" + i);
        }
        Bench.orderInVain(feeder, "G1 X9", LayerFeeder.FULL);
        feeder.tick();
        Bench.due("left()", feeder.left(), 7);
        Bench.order(feeder, "G1 X9");
    }

    private static void axesAreLookedAt() {
        LayerFeeder feeder = new LayerFeeder(100);
        int[] none = {-1, 3, 4, Integer.MIN_VALUE, Integer.MAX_VALUE};
        for (int axis : none) {
            Bench.dueThrow("commanded(" + axis + ")", IllegalArgumentException.class,
                () -> feeder.commanded(axis));
            Bench.dueThrow("place(" + axis + ")", IllegalArgumentException.class,
                () -> feeder.place(axis));
        }
    }
}
