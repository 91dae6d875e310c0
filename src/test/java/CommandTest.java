import java.util.ArrayList;
import java.util.List;

/** COMMANDS, as far as they make no block, and promises 4 (receive) and 9 (commanded). */
public final class CommandTest {
    public static void main(String[] args) {
        codesAre1And4And90To92();
        codeStandsAloneInFront();
        frameOfANumberAloneIsWrong();
        valuesAndDifferencesTakeNoMore();
        dwellTakes1To200();
        originTakesAnyAxes();
        moveTakesAnyAxesAndASpeed();
        speedIs1To1000();
        wordsStandOnceAtMost();
        wordsComeInAnyOrder();
        wrongCommandsTakeTheNumberAlone();
        valuesAndDifferences();
        originIsSetWhereItIsCommanded();
        originOfEachAxisIsItsOwn();
        originOutlastsOtherCommands();
        speedHoldsFromNowOn();
        speedOfARefusedMoveIsNotTaken();
        axesAreLookedAt();
        Bench.end();
    }

    private static void dueRight(String command, boolean want) {
        int answer = Bench.send(new LayerFeeder(100), "N0 " + command);
        Bench.due("<" + command + ">", answer, want ? 0 : LayerFeeder.WRONG);
    }

    private static void codesAre1And4And90To92() {
        Bench.sentence("G 90 or G 91; G 4; G 92; G 1");
        for (int code = 0; code <= 400; code++) {
            boolean right = code == 1 || code == 90 || code == 91 || code == 92;
            dueRight("G" + code, right);
            dueRight("G" + code + " P1", code == 4);
            dueRight("G-" + code, false);
        }
        int[] others = {900, 901, 910, 911, 920, 1001, 10001, 10090, 65537, 65626, 99999};
        for (int code : others) {
            dueRight("G" + code, false);
        }
        dueRight("G01", true);
        dueRight("G00090", true);
    }

    private static void codeStandsAloneInFront() {
        Bench.sentence("A COMMAND is the words behind the first one; in any order behind the G");
        for (char c = 'A'; c <= 'Z'; c++) {
            dueRight(c + "1", c == 'G');
            dueRight(c + "90", c == 'G');
            dueRight(c + "4 P5", c == 'G');
        }
        String[] wrong = {
            "", "X1 G1", "F5 G1", "P5 G4", "X1 G92", "X1 G1 Y1", "N1 G90", "N0 G90", "G1 G1",
            "G90 G90", "G90 G91", "G1 X5 G1", "G4 P5 G4", "G92 G92", "G91 G1 X1", "G1 N0", "P5",
        };
        for (String command : wrong) {
            dueRight(command, false);
        }
    }

    private static void frameOfANumberAloneIsWrong() {
        Bench.sentence("A COMMAND is the words behind the first one (none, once)");
        for (String before : new String[] {"G90", "G91", "G1", "G1 X5", "G92 X7", "G4 P2"}) {
            LayerFeeder feeder = Bench.feederWith(100, before);
            int left = feeder.left();
            Bench.orderInVain(feeder, "", LayerFeeder.WRONG);
            Bench.due("left() behind " + before, feeder.left(), left);
        }
    }

    private static void valuesAndDifferencesTakeNoMore() {
        Bench.sentence("G 90 or G 91, and no more");
        dueRight("G90", true);
        dueRight("G91", true);
        for (char c = 'A'; c <= 'Z'; c++) {
            dueRight("G90 " + c + "1", false);
            dueRight("G91 " + c + "1", false);
        }
    }

    private static void dwellTakes1To200() {
        Bench.sentence("G 4 and P, 1 .. 200");
        dueRight("G4", false);
        for (int p = -201; p <= 402; p++) {
            dueRight("G4 P" + p, p >= 1 && p <= 200);
        }
        int[] others = {-99999, 257, 456, 65537, 99999};
        for (int p : others) {
            dueRight("G4 P" + p, false);
        }
        dueRight("G4 P-0", false);
        for (char c = 'A'; c <= 'Z'; c++) {
            dueRight("G4 " + c + "1", c == 'P');
            dueRight("G4 P1 " + c + "1", false);
            dueRight("G4 " + c + "1 P1", false);
        }
    }

    private static void originTakesAnyAxes() {
        Bench.sentence("G 92 and any of X, Y, E");
        for (String order : ordersOf(new String[] {"X1", "Y-99999", "E99999"})) {
            dueRight("G92" + order, true);
        }
        for (char c = 'A'; c <= 'Z'; c++) {
            dueRight("G92 " + c + "1", "XYE".indexOf(c) >= 0);
            dueRight("G92 X1 Y1 E1 " + c + "1", false);
        }
    }

    private static void moveTakesAnyAxesAndASpeed() {
        Bench.sentence("G 1 and any of X, Y, E and F");
        for (String order : ordersOf(new String[] {"X1", "Y2", "E-3", "F4"})) {
            dueRight("G1" + order, true);
        }
        for (char c = 'A'; c <= 'Z'; c++) {
            dueRight("G1 " + c + "1", "XYEF".indexOf(c) >= 0);
            dueRight("G1 X1 Y1 E1 F1 " + c + "1", false);
        }
    }

    private static void speedIs1To1000() {
        Bench.sentence("F being 1 .. 1000");
        int[] speeds = {-99999, -1000, -100, -1, 0, 1, 2, 999, 1000, 1001, 2000, 65537, 99999};
        for (int f : speeds) {
            dueRight("G1 F" + f, f >= 1 && f <= 1000);
            dueRight("G1 X1 F" + f, f >= 1 && f <= 1000);
            dueRight("G1 F" + f + " X0", f >= 1 && f <= 1000);
        }
        dueRight("G1 F-0", false);
        LayerFeeder feeder = Bench.feederWith(100, "G1 X1 F1", "G1 X2 F1000");
        Bench.due("the top at F1", feeder.plan(0, 3), 1);
        Bench.due("the top at F1000", feeder.plan(1, 3), 1000000);
    }

    private static void wordsStandOnceAtMost() {
        Bench.sentence("each of these once at most");
        for (char c : "XYEF".toCharArray()) {
            dueRight("G1 " + c + "1", true);
            dueRight("G1 " + c + "1 " + c + "1", false);
            dueRight("G1 " + c + "1 " + c + "2", false);
            for (char d : "XYEF".toCharArray()) {
                dueRight("G1 " + c + "1 " + d + "1 " + c + "1", false);
            }
        }
        for (char c : "XYE".toCharArray()) {
            dueRight("G92 " + c + "1", true);
            dueRight("G92 " + c + "1 " + c + "1", false);
            dueRight("G92 " + c + "0 " + c + "0", false);
        }
        dueRight("G4 P5 P5", false);
        dueRight("G1" + "X1".repeat(33), false);
    }

    private static void wordsComeInAnyOrder() {
        Bench.sentence("in any order behind the G");
        for (String order : ordersOf(new String[] {"X1", "Y2", "E-3", "F4"})) {
            LayerFeeder feeder = Bench.feederWith(100, "G1" + order);
            Bench.dueCommanded(order, feeder, told(order, "X1", 1), told(order, "Y2", 2),
                told(order, "E-3", -3));
            Bench.order(feeder, "G1 X9");
            int last = feeder.left() - 1;
            Bench.due("the speed", feeder.plan(last, 3), order.contains("F4") ? 16 : 10000);
        }
        for (String order : ordersOf(new String[] {"X-1", "Y-2", "E3"})) {
            LayerFeeder feeder = Bench.feederWith(100, "G92" + order, "G1 X9 Y9 E9");
            Bench.dueCommanded(order, feeder, 9 + told(order, "X-1", 1), 9 + told(order, "Y-2", 2),
                9 + told(order, "E3", -3));
        }
    }

    private static int told(String order, String word, int value) {
        return order.contains(word) ? value : 0;
    }

    /** All orders of all sets of the words, that of none included. */
    private static List<String> ordersOf(String[] words) {
        List<String> orders = new ArrayList<>();
        orders.add("");
        for (int i = 0; i < orders.size(); i++) {
            for (String word : words) {
                if (!orders.get(i).contains(word)) {
                    orders.add(orders.get(i) + " " + word);
                }
            }
        }
        return orders;
    }

    private static void wrongCommandsTakeTheNumberAlone() {
        Bench.sentence("WRONG, when nothing was done but the number taken");
        String[] commands = {
            "G91 X1", "G90 G91", "G92 X5 F5", "G92 Y5 Y5", "G92 E5 P5", "G1 X5 F0", "G1 X5 F1001",
            "G1 F500 X-1", "G1 F500 X5 Z0", "G1 Y5 F500 X501", "G1 X5 X5", "G4 P201", "G4 P5 X1",
            "G1 F500 F500", "G1 E501 F500", "X5", "G5", "",
        };
        LayerFeeder feeder = new LayerFeeder(100);
        for (String command : commands) {
            Bench.orderInVain(feeder, command, LayerFeeder.WRONG);
        }
        Bench.due("left()", feeder.left(), 0);
        Bench.dueCommanded("behind wrong commands", feeder, 0, 0, 0);
        Bench.order(feeder, "G1 X5 Y6 E7");
        Bench.order(feeder, "G1 X4 Y5 E6");
        Bench.dueCommanded("values that are steps still", feeder, 4, 5, 6);
        Bench.due("the top at the same speed", feeder.plan(0, 3), 10000);
        LayerFeeder other = Bench.feederWith(100, "G91", "G92 X5");
        Bench.orderInVain(other, "G90 X1", LayerFeeder.WRONG);
        Bench.orderInVain(other, "G92 X9 X9", LayerFeeder.WRONG);
        Bench.order(other, "G1 X2");
        Bench.order(other, "G1 X2");
        Bench.dueCommanded("differences still", other, 4, 0, 0);
        Bench.order(other, "G90");
        Bench.order(other, "G1 X6");
        Bench.dueCommanded("the origin still", other, 1, 0, 0);
    }

    private static void valuesAndDifferences() {
        Bench.sentence("G 90: what X, Y, E tell are values from now on; G 91: they are differences");
        LayerFeeder feeder = Bench.feederWith(100, "G1 X10 Y20 E30", "G91", "G1 X10 Y-5 E-40");
        Bench.dueCommanded("differences", feeder, 20, 15, -10);
        Bench.order(feeder, "G1 Y1");
        Bench.dueCommanded("one difference", feeder, 20, 16, -10);
        Bench.order(feeder, "G91");
        Bench.order(feeder, "G1 Y1");
        Bench.dueCommanded("G91 again", feeder, 20, 17, -10);
        Bench.order(feeder, "G90");
        Bench.dueCommanded("G90 moves nothing", feeder, 20, 17, -10);
        Bench.order(feeder, "G1 X10 E-40");
        Bench.dueCommanded("values again", feeder, 10, 17, -40);
        Bench.order(feeder, "G90");
        Bench.order(feeder, "G1 X11 Y0");
        Bench.dueCommanded("G90 again", feeder, 11, 0, -40);
    }

    private static void originIsSetWhereItIsCommanded() {
        Bench.sentence("each axis that is told has this value where the COMMANDED PLACE is");
        LayerFeeder feeder = Bench.feederWith(100, "G1 X100 Y50 E20", "G92 X0 Y-7 E99999");
        Bench.dueCommanded("G92 moves nothing", feeder, 100, 50, 20);
        Bench.duePlace("G92 moves nothing", feeder, 0, 0, 0);
        Bench.due("G92 makes no block", feeder.left(), 1);
        Bench.order(feeder, "G1 X-1 Y-6 E99997");
        Bench.dueCommanded("from the new origin", feeder, 99, 51, 18);
        Bench.order(feeder, "G92 E-99999");
        Bench.order(feeder, "G1 E-99998");
        Bench.dueCommanded("from the least value", feeder, 99, 51, 19);
        Bench.order(feeder, "G91");
        Bench.order(feeder, "G92 X500");
        Bench.order(feeder, "G1 X1 Y1 E1");
        Bench.dueCommanded("differences know no origin", feeder, 100, 52, 20);
        Bench.order(feeder, "G90");
        Bench.order(feeder, "G1 X500");
        Bench.dueCommanded("G92 tells values under G91 too", feeder, 99, 52, 20);
        feeder.stop();
        feeder.tick();
        Bench.order(feeder, "G92 X0 Y0 E0");
        Bench.order(feeder, "G1 X3 Y4 E5");
        Bench.dueCommanded("values that are steps again", feeder, 3, 4, 5);
    }

    private static void originOfEachAxisIsItsOwn() {
        Bench.sentence("else (as at first) an axis' values are its steps");
        String[] letters = {"X", "Y", "E"};
        for (int axis = 0; axis < 3; axis++) {
            LayerFeeder feeder = Bench.feederWith(100, "G1 X50 Y60 E70", "G92 " + letters[axis] + "5",
                "G1 X50 Y60 E70");
            Bench.dueCommanded("G92 " + letters[axis] + "5", feeder, axis == 0 ? 95 : 50,
                axis == 1 ? 115 : 60, axis == 2 ? 135 : 70);
        }
        LayerFeeder none = Bench.feederWith(100, "G91", "G1 X50 Y60 E70", "G1 X5 Y6 E7", "G92",
            "G90", "G1 X51 Y61 E71");
        Bench.dueCommanded("G92 of none", none, 51, 61, 71);
        LayerFeeder one = Bench.feederWith(100, "G91", "G1 X50 Y60 E70", "G1 X5 Y6 E7", "G92 Y1",
            "G90", "G1 X51 Y2 E71");
        Bench.dueCommanded("G92 of Y", one, 51, 67, 71);
    }

    private static void originOutlastsOtherCommands() {
        Bench.sentence("each axis that is told has this value where the COMMANDED PLACE is");
        LayerFeeder feeder = Bench.feederWith(1000, "G1 X100 Y50 F1000", "G92 X0", "G92 Y0", "G92",
            "G1 X1 Y1");
        Bench.dueCommanded("an axis that is not told keeps its origin", feeder, 101, 51, 0);
        Bench.order(feeder, "G90");
        Bench.order(feeder, "G1 X0 Y0");
        Bench.dueCommanded("G90 keeps the origin", feeder, 100, 50, 0);
        feeder.stop();
        Bench.dueCommanded("behind stop()", feeder, 0, 0, 0);
        Bench.order(feeder, "G1 X0 Y-50");
        Bench.dueCommanded("stop() keeps the origin", feeder, 100, 0, 0);
    }

    private static void speedHoldsFromNowOn() {
        Bench.sentence("F: the SPEED from now on (at first 100), for this command too");
        LayerFeeder feeder = Bench.feederWith(100, "G1 X1", "G1 X2 F1", "G1 X3", "G1 F1000",
            "G1 X4", "G1 X4 F7", "G1 X5", "G1 X6 F8");
        int[] tops = {10000, 1, 1, 1000000, 49, 64};
        Bench.due("left()", feeder.left(), tops.length);
        for (int i = 0; i < tops.length; i++) {
            Bench.due("plan(" + i + ", 3)", feeder.plan(i, 3), tops[i]);
        }
    }

    private static void speedOfARefusedMoveIsNotTaken() {
        Bench.sentence("REPEAT or FULL, when nothing was done; WRONG, when nothing was done but");
        LayerFeeder feeder = Bench.feederWith(100, "G1 X1 F7");
        Bench.orderInVain(feeder, "G1 X1000 F9", LayerFeeder.WRONG);
        Bench.due("REPEAT", Bench.receive(feeder, "N2 G1 F9*0"), LayerFeeder.REPEAT);
        Bench.order(feeder, "G1 X2");
        Bench.due("the top behind WRONG and REPEAT", feeder.plan(1, 3), 49);
        for (int i = 3; i <= 8; i++) {
            Bench.order(feeder, "G1 X" + i);
        }
        Bench.orderInVain(feeder, "G1 X9 F9", LayerFeeder.FULL);
        feeder.stop();
        Bench.order(feeder, "G1 X9");
        Bench.due("the top behind FULL", feeder.plan(0, 3), 49);
    }

    private static void axesAreLookedAt() {
        Bench.sentence("AXES are 0, 1, 2; illegal argument: there is no such axis");
        LayerFeeder feeder = Bench.feederWith(100, "G1 X1 Y2 E3");
        Bench.dueCommanded("0, 1, 2", feeder, 1, 2, 3);
        int[] none = {Integer.MIN_VALUE, -3, -2, -1, 3, 4, 5, 256, Integer.MAX_VALUE};
        for (int axis : none) {
            Bench.dueThrow("commanded(" + axis + ")", IllegalArgumentException.class,
                () -> feeder.commanded(axis));
            Bench.dueThrow("place(" + axis + ")", IllegalArgumentException.class,
                () -> feeder.place(axis));
        }
    }
}
