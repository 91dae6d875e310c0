/** Promises 4 (receive), as far as the frame goes, and 5 (wanted). */
public final class FrameTest {
    public static void main(String[] args) {
        rightFramesAreTaken();
        othersAreToBeRepeated();
        onlyTheWantedNumberIsTaken();
        sumIsOfAllBeforeTheStar();
        numbersGrowOverOneDecimal();
        refusedCallsLeaveTheText();
        Bench.end();
    }

    private static void rightFramesAreTaken() {
        String[] words = {
            "N0 G90", "N0G90", "  N0   G90", "N0 G90   ", "N00000 G00090", "N0 G1 X-0 Y00000 E0",
            "N0G1X1Y2E-3F4", "N0 G4P1", " N0 G1", "N0 G92",
        };
        for (String w : words) {
            Bench.due("<" + w + ">", Bench.send(new LayerFeeder(100), w), 0);
        }
        LayerFeeder feeder = new LayerFeeder(100);
        Bench.due("sum with a 0 before it", Bench.receive(feeder, "N0 G90*016"), 0);
        Bench.due("blanks behind the sum", Bench.receive(feeder, "N1 G90*17   "), 1);
        Bench.due("wanted()", feeder.wanted(), 2);
        String blanks = " ".repeat(70);
        Bench.due("80 characters", Bench.receive(feeder, "N2 G90" + blanks + "*018"), 2);
    }

    private static void othersAreToBeRepeated() {
        String[] words = {
            "", "   ", "G90", "X0 N0 G90", "N-0 G90", "N G90", "N 0 G90", "N0 G 90", "N0 G9 0",
            "n0 G90", "N0 g90", "N0 G", "N0 G1 X", "N0 G1 X-", "N0 G1 X--1", "N0 G1 X+1",
            "N0 G1 X1.5", "N0 G1 X123456", "N000000 G90", "N0 G1 X1-", "N0 G1 5", "N0,G90",
            "N0 G90 ;", "0 G90", "- N0 G90", "N0 G1 X- 1", "N0 [1", "N0 @1",
        };
        LayerFeeder feeder = new LayerFeeder(100);
        for (String w : words) {
            Bench.due("<" + w + ">", Bench.send(feeder, w), LayerFeeder.REPEAT);
            Bench.due("wipe() behind <" + w + ">", feeder.wipe(), 0);
        }
        String[] texts = {
            "", "N0 G90", "N0 G90*", "N0 G90* 16", "N0 G90*0016", "N0 G90*1 6", "N0 G90*16x",
            "N0 G90*16*16", "N0 G90*16 0", "N0 G90*-16", "*0", "*", "N0 G90**16", "N0*126*16",
            "N0 G90*16 N0",
        };
        for (String t : texts) {
            Bench.due("<" + t + ">", Bench.receive(feeder, t), LayerFeeder.REPEAT);
            Bench.due("wipe() behind <" + t + ">", feeder.wipe(), 0);
        }
        Bench.due("wanted()", feeder.wanted(), 0);
    }

    private static void onlyTheWantedNumberIsTaken() {
        LayerFeeder feeder = new LayerFeeder(100);
        Bench.due("N1 first", Bench.send(feeder, "N1 G91"), LayerFeeder.REPEAT);
        Bench.due("N0", Bench.send(feeder, "N0 G1 X1"), 0);
        Bench.due("N0 again", Bench.send(feeder, "N0 G1 X2"), LayerFeeder.REPEAT);
        Bench.due("N2 too early", Bench.send(feeder, "N2 G1 X2"), LayerFeeder.REPEAT);
        Bench.due("N99999", Bench.send(feeder, "N99999 G1 X2"), LayerFeeder.REPEAT);
        Bench.due("N0 and wrong", Bench.send(feeder, "N0 G5"), LayerFeeder.REPEAT);
        Bench.due("wanted()", feeder.wanted(), 1);
        Bench.dueCommanded("behind frames to be repeated", feeder, 1, 0, 0);
        Bench.due("left()", feeder.left(), 1);
        Bench.due("N1 without a command", Bench.send(feeder, "N1"), LayerFeeder.WRONG);
        Bench.due("wanted()", feeder.wanted(), 2);
        Bench.due("N2", Bench.send(feeder, "N2 G1 X2"), 2);
    }

    private static void sumIsOfAllBeforeTheStar() {
        LayerFeeder feeder = new LayerFeeder(100);
        for (int sum = 0; sum <= 130; sum++) {
            if (sum != 16) {
                Bench.due("sum " + sum, Bench.receive(feeder, "N0 G90*" + sum), LayerFeeder.REPEAT);
            }
        }
        feeder = new LayerFeeder(100);
        int[] wrong = {16 + 128, 16 + 256, 16 + 512, 999, 0, 48};
        for (int sum : wrong) {
            Bench.due("sum " + sum, Bench.receive(feeder, "N0 G90*" + sum), LayerFeeder.REPEAT);
        }
        Bench.due("a blank before *", Bench.receive(feeder, "N0 G90 *16"), LayerFeeder.REPEAT);
        Bench.due("a blank in front", Bench.receive(feeder, " N0 G90*16"), LayerFeeder.REPEAT);
        Bench.due("both", Bench.receive(feeder, " N0 G90 *16"), 0);
        LayerFeeder other = new LayerFeeder(100);
        Bench.due("0, not told", Bench.receive(other, "N0G1E2F9*"), LayerFeeder.REPEAT);
        Bench.due("0, told", Bench.receive(other, "N0G1E2F9*000"), 0);
    }

    private static void numbersGrowOverOneDecimal() {
        LayerFeeder feeder = new LayerFeeder(100);
        for (int number = 0; number < 120; number++) {
            Bench.due("wanted()", feeder.wanted(), number);
            Bench.due("N" + number, Bench.send(feeder, "N" + number + "G90"), number);
        }
    }

    private static void refusedCallsLeaveTheText() {
        LayerFeeder feeder = Bench.cutOff(5);
        Bench.write(feeder, "N0 G90*16");
        Bench.dueThrow("receive() when off", IllegalStateException.class, feeder::receive);
        feeder.power();
        Bench.dueThrow("receive() when lost", IllegalStateException.class, feeder::receive);
        Bench.due("wipe()", feeder.wipe(), 9);
    }
}
