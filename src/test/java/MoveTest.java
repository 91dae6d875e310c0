/** Which moves are POSSIBLE, and which commands make a BLOCK: promises 4, 9 and 10. */
public final class MoveTest {
    private static final String POSSIBLE =
        "A move is POSSIBLE if it leads X and Y to 0 .. 999, E to -99999 .. 99999,"
        + " and no axis by more than 500 steps";

    public static void main(String[] args) {
        tableEndsAt0();
        tableEndsAt999();
        travelEndsAt500();
        differencesEndThereToo();
        stepsCountAndNotValues();
        oneAxisTooFarIsEnough();
        farthestValuesLeadNowhere();
        feedEndsAt99999();
        impossibleMovesDoNothing();
        moveOfNoAxisMakesNoBlock();
        moveOfAnyAxisMakesABlock();
        movesGoFromTheCommandedPlace();
        Bench.end();
    }

    /** A move is possible, or not, behind others that lead to where it begins. */
    private static void duePossible(boolean want, String move, String... before) {
        LayerFeeder feeder = Bench.feederWith(100, before);
        int number = feeder.wanted();
        String when = String.join(", ", before) + ", then " + move;
        int answer = Bench.send(feeder, "N" + number + " " + move);
        Bench.due(when, answer, want ? number : LayerFeeder.WRONG);
        Bench.due("wanted() behind " + when, feeder.wanted(), number + 1);
    }

    private static void tableEndsAt0() {
        Bench.sentence(POSSIBLE);
        for (String axis : new String[] {"X", "Y"}) {
            String move = "G1 " + axis;
            duePossible(true, move + "0");
            duePossible(false, move + "-1");
            duePossible(true, move + "0", move + "500");
            duePossible(false, move + "-1", move + "499");
            duePossible(false, move + "-1", move + "1");
            duePossible(true, move + "0", move + "1");
        }
        duePossible(true, "G1 E-1");
        duePossible(true, "G1 E-1", "G1 E1");
    }

    private static void tableEndsAt999() {
        Bench.sentence(POSSIBLE);
        for (String axis : new String[] {"X", "Y"}) {
            String move = "G1 " + axis;
            duePossible(true, move + "999", move + "500");
            duePossible(false, move + "1000", move + "500");
            duePossible(true, move + "999", move + "499");
            duePossible(false, move + "1000", move + "500", move + "999");
            duePossible(true, move + "999", move + "500", move + "999");
        }
        duePossible(true, "G1 E1000", "G1 E500");
        duePossible(true, "G1 E-1000", "G1 E-500");
    }

    private static void travelEndsAt500() {
        Bench.sentence(POSSIBLE);
        for (String axis : new String[] {"X", "Y", "E"}) {
            String move = "G1 " + axis;
            duePossible(true, move + "499");
            duePossible(true, move + "500");
            duePossible(false, move + "501");
            duePossible(true, move + "501", move + "1");
            duePossible(false, move + "502", move + "1");
            duePossible(true, move + "499", move + "500", move + "999");
            duePossible(false, move + "498", move + "500", move + "999");
        }
        duePossible(true, "G1 E-500");
        duePossible(false, "G1 E-501");
        duePossible(true, "G1 E-250", "G1 E250");
        duePossible(false, "G1 E-251", "G1 E250");
    }

    private static void differencesEndThereToo() {
        Bench.sentence(POSSIBLE);
        for (String axis : new String[] {"X", "Y"}) {
            String move = "G1 " + axis;
            duePossible(false, move + "-1", "G91");
            duePossible(true, move + "0", "G91");
            duePossible(true, move + "-500", "G91", move + "500");
            duePossible(false, move + "-500", "G91", move + "499");
            duePossible(true, move + "499", "G91", move + "500");
            duePossible(false, move + "500", "G91", move + "500");
            duePossible(false, move + "1", "G91", move + "500", move + "499");
            duePossible(false, move + "501", "G91");
            duePossible(false, move + "-501", "G91", move + "500", move + "499");
        }
        duePossible(true, "G1 E500", "G91", "G1 E500");
        duePossible(false, "G1 E501", "G91", "G1 E500");
        duePossible(true, "G1 E-500", "G91");
        duePossible(false, "G1 E-501", "G91");
    }

    private static void stepsCountAndNotValues() {
        Bench.sentence(POSSIBLE + " (the place is a number of steps)");
        for (String axis : new String[] {"X", "Y"}) {
            String move = "G1 " + axis;
            String zero = "G92 " + axis + "0";
            duePossible(true, move + "-100", move + "100", zero);
            duePossible(false, move + "-101", move + "100", zero);
            duePossible(true, move + "500", move + "100", zero);
            duePossible(false, move + "501", move + "100", zero);
            duePossible(true, move + "99", move + "500", move + "900", zero);
            duePossible(false, move + "100", move + "500", move + "900", zero);
            duePossible(true, move + "1500", "G92 " + axis + "1000");
            duePossible(false, move + "1501", "G92 " + axis + "1000");
            duePossible(false, move + "999", "G92 " + axis + "1000");
        }
        duePossible(true, "G1 E99999", "G92 E99499");
        duePossible(false, "G1 E99999", "G92 E99498");
        duePossible(true, "G1 E-99999", "G92 E-99499");
        duePossible(false, "G1 E-99999", "G92 E-99498");
        duePossible(true, "G1 E1", "G92 E99999", "G91");
        duePossible(true, "G1 E-1", "G92 E-99999", "G91");
    }

    private static void oneAxisTooFarIsEnough() {
        Bench.sentence(POSSIBLE);
        duePossible(true, "G1 X500 Y500 E500");
        duePossible(true, "G1 X500 Y500 E-500");
        duePossible(false, "G1 X501 Y500 E500");
        duePossible(false, "G1 X500 Y501 E500");
        duePossible(false, "G1 X500 Y500 E501");
        duePossible(false, "G1 X500 Y500 E-501");
        duePossible(false, "G1 X-1 Y1 E1");
        duePossible(false, "G1 X1 Y-1 E1");
        duePossible(true, "G1 X1 Y1 E-1");
    }

    private static void farthestValuesLeadNowhere() {
        Bench.sentence(POSSIBLE);
        for (String axis : new String[] {"X", "Y", "E"}) {
            for (String value : new String[] {"99999", "-99999", "65536", "-65536", "32768"}) {
                duePossible(false, "G1 " + axis + value);
                duePossible(false, "G1 " + axis + value, "G91");
            }
            duePossible(false, "G1 " + axis + "99999", "G92 " + axis + "-99999");
            duePossible(false, "G1 " + axis + "-99999", "G92 " + axis + "99999");
            duePossible(true, "G1 " + axis + "99999", "G92 " + axis + "99999");
        }
    }

    /**
     * Since E goes 500 steps in three calls at best, no run of 512 calls comes to its ends; the
     * class is held to them all the same, by an object that is used for longer.
     */
    private static void feedEndsAt99999() {
        Bench.sentence(POSSIBLE);
        for (String sign : new String[] {"", "-"}) {
            String back = sign.isEmpty() ? "-" : "";
            int way = sign.isEmpty() ? 1 : -1;
            LayerFeeder feeder = Bench.feederWith(1000, "G91", "G1 F1000");
            for (int i = 0; i < 199; i++) {
                Bench.doWhole(feeder, "G1 E" + sign + "500");
            }
            Bench.orderInVain(feeder, "G1 E" + sign + "500", LayerFeeder.WRONG);
            Bench.doWhole(feeder, "G1 E" + sign + "499");
            Bench.dueCommanded("at the end", feeder, 0, 0, 99999 * way);
            Bench.duePlace("at the end", feeder, 0, 0, 99999 * way);
            Bench.orderInVain(feeder, "G1 E" + sign + "1", LayerFeeder.WRONG);
            Bench.orderInVain(feeder, "G1 X1 E" + sign + "1", LayerFeeder.WRONG);
            Bench.order(feeder, "G1 X1");
            Bench.order(feeder, "G1 E" + back + "1");
            Bench.order(feeder, "G1 E" + sign + "1");
            Bench.dueCommanded("at the end again", feeder, 1, 0, 99999 * way);
        }
    }

    private static void impossibleMovesDoNothing() {
        Bench.sentence("WRONG: the command is not right, or its move not possible");
        LayerFeeder feeder = Bench.feederWith(100, "G1 X10 Y20 E30");
        Bench.orderInVain(feeder, "G1 X11 Y21 E531 F9", LayerFeeder.WRONG);
        Bench.orderInVain(feeder, "G1 X-1 Y21 E31 F9", LayerFeeder.WRONG);
        Bench.dueCommanded("behind WRONG", feeder, 10, 20, 30);
        Bench.due("left()", feeder.left(), 1);
        Bench.order(feeder, "G1 X12");
        Bench.dueCommanded("the next move", feeder, 12, 20, 30);
        Bench.due("its length", feeder.plan(1, 2), 2);
        Bench.due("its top", feeder.plan(1, 3), 10000);
    }

    private static void moveOfNoAxisMakesNoBlock() {
        Bench.sentence("If it moves an axis, it makes a BLOCK");
        String[] commands = {
            "G1", "G1 F50", "G1 X0", "G1 Y0", "G1 E0", "G1 X0 Y0 E-0 F60", "G90", "G91", "G1 X0 Y0",
            "G1 E0 F70", "G92", "G92 X5", "G92 X0 Y-9 E7",
        };
        LayerFeeder feeder = new LayerFeeder(100);
        for (String command : commands) {
            Bench.order(feeder, command);
            Bench.due("left() behind " + command, feeder.left(), 0);
        }
        Bench.dueCommanded("behind all", feeder, 0, 0, 0);
        LayerFeeder away = Bench.feederWith(100, "G1 X5 Y6 E-7", "G1 X5 Y6 E-7", "G92 X9",
            "G1 X9 E-7");
        Bench.due("left(): to where it is commanded", away.left(), 1);
    }

    private static void moveOfAnyAxisMakesABlock() {
        Bench.sentence("If it moves an axis, it makes a BLOCK");
        String[] moves = {"X1", "Y1", "E1", "E-1", "X1 Y0", "X0 Y1 E0", "X0 Y0 E1", "X0 Y0 E-1"};
        for (String move : moves) {
            LayerFeeder feeder = Bench.feederWith(100, "G1 " + move);
            Bench.due("left() behind " + move, feeder.left(), 1);
            Bench.due("plan(0, 2) behind " + move, feeder.plan(0, 2), 1);
        }
        LayerFeeder back = Bench.feederWith(100, "G1 X1", "G1 X0");
        Bench.due("left(): there and back", back.left(), 2);
    }

    private static void movesGoFromTheCommandedPlace() {
        Bench.sentence("a MOVE from the commanded place; axes that are not told stay");
        LayerFeeder feeder = Bench.feederWith(100, "G1 X9 Y8 E7", "G1 Y5");
        Bench.dueCommanded("X and E stay", feeder, 9, 5, 7);
        Bench.duePlace("nothing was done yet", feeder, 0, 0, 0);
        Bench.due("the length of the second", feeder.plan(1, 2), 3);
        Bench.order(feeder, "G1 X0");
        Bench.dueCommanded("Y and E stay", feeder, 0, 5, 7);
        Bench.order(feeder, "G1 E0");
        Bench.dueCommanded("X and Y stay", feeder, 0, 5, 0);
        Bench.sentence("The commanded place is where the last block ends");
        feeder.run(20000);
        Bench.duePlace("all was done", feeder, 0, 5, 0);
        Bench.dueCommanded("all was done", feeder, 0, 5, 0);
    }
}
