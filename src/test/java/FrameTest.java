/** FRAMES and their sums, and promises 4 (receive), as far as the frame goes, and 5 (wanted). */
public final class FrameTest {
    public static void main(String[] args) {
        blanksStandWhereOneWants();
        sumHasOneToThreeDecimals();
        nothingButBlanksIsBehindTheSum();
        letterIsACapital();
        minusStandsOnceBeforeTheDecimals();
        wordHasOneToFiveDecimals();
        firstWordIsN();
        numberHasOneToFiveDecimals();
        onlyTheWantedNumberIsTaken();
        sumIsOfAllCharactersBeforeTheStar();
        onlyOneSumIsRight();
        sumsOfAllSizesAreRight();
        textIsEmptyThenInAllCases();
        takenNumbersAreFollowedByTheNext();
        numbersGrowOverOneDecimal();
        Bench.end();
    }

    /** A frame with the words, and with their sum, is one (whatever its command is), or is none. */
    private static void dueFrame(String words, boolean want) {
        LayerFeeder feeder = new LayerFeeder(100);
        int answer = Bench.send(feeder, words);
        Bench.due("<" + words + "> is a frame", answer != LayerFeeder.REPEAT, want);
        Bench.due("wanted() behind <" + words + ">", feeder.wanted(), want ? 1 : 0);
    }

    private static void dueText(String text, boolean want) {
        int answer = Bench.receive(new LayerFeeder(100), text);
        Bench.due("receive() of <" + text + ">", answer, want ? 0 : LayerFeeder.REPEAT);
    }

    private static void blanksStandWhereOneWants() {
        Bench.sentence("a row of WORDS, with blanks between or before them where one wants");
        String blanks = " ".repeat(66);
        String[] right = {
            "N0G90", "N0 G90", "N0  G90", " N0G90", "   N0   G90", "N0G90 ", "N0 G90   ",
            blanks + "N0 G90", "N0" + blanks + "G90", "N0 G90" + blanks, "N0G1X1Y2E3F4",
            " N0 G1 X1 Y2 E3 F4 ",
        };
        for (String words : right) {
            Bench.due("<" + words + ">", Bench.send(new LayerFeeder(100), words), 0);
        }
        String[] within = {"N 0G90", "N0G 90", "N0G9 0", "N0G1X- 1", "N0G1X -1", "N0G1X1 1"};
        for (String words : within) {
            dueFrame(words, false);
        }
        String[] others = {"N0,G90", "N0_G90", "N0-G90", "~N0G90", "N0!G90", "N0G90."};
        for (String words : others) {
            dueFrame(words, false);
        }
        dueFrame("", false);
        dueFrame(" ", false);
        dueFrame("N0" + "A1".repeat(37), true);
        dueFrame("N0" + "A1".repeat(36) + "A", false);
    }

    private static void sumHasOneToThreeDecimals() {
        Bench.sentence("then * and one to three decimals, the SUM");
        Bench.due("the sum of N0G1E2F9", Bench.sum("N0G1E2F9"), 0);
        dueText("N0G1E2F9*", false);
        dueText("N0G1E2F9* ", false);
        dueText("N0G1E2F9*0", true);
        dueText("N0G1E2F9*00", true);
        dueText("N0G1E2F9*000", true);
        dueText("N0G1E2F9*0000", false);
        dueText("N0 G90*16", true);
        dueText("N0 G90*016", true);
        dueText("N0 G90*0016", false);
        dueText("N0 G90*160", false);
        dueText("N0 G90*1", false);
        dueText("N0 G90", false);
        dueText("N0 G9016", false);
        dueText("N0 G90 16", false);
        dueText("N0 G90/16", false);
        dueText("N0 G90+16", false);
        dueText("N0 G90*-16", false);
        dueText("N0 G90*+16", false);
        dueText("N0 G90*1:", false);
        dueText("N0 G90*/16", false);
        dueText("N0 G90* 16", false);
        dueText("N0 G90*1 6", false);
        dueText("N0 G90**16", false);
        dueText("*0", false);
        dueText("*", false);
        dueText("", false);
    }

    private static void nothingButBlanksIsBehindTheSum() {
        Bench.sentence("the SUM, and blanks");
        dueText("N0 G90*16 ", true);
        dueText("N0 G90*016 ", true);
        dueText("N0 G90*16" + " ".repeat(71), true);
        dueText("N0 G90*16" + " ".repeat(70) + "0", false);
        for (char c = 33; c <= 126; c++) {
            dueText("N0 G90*016" + c, false);
            dueText("N0 G90*16 " + c, false);
        }
        dueText("N0 G90*16 N1 G90*17", false);
        dueText("N0*126 G90*16", false);
    }

    private static void letterIsACapital() {
        Bench.sentence("A word is a capital letter, perhaps -, and one to five decimals");
        for (char c = 32; c <= 126; c++) {
            dueFrame("N0 " + c + "1", c >= 'A' && c <= 'Z');
            dueFrame("N0 G1 " + c + "1", c >= 'A' && c <= 'Z');
        }
    }

    private static void minusStandsOnceBeforeTheDecimals() {
        Bench.sentence("perhaps -");
        dueFrame("N0 X-1", true);
        dueFrame("N0 X-0", true);
        dueFrame("N0 X1", true);
        String[] none = {"N0 X-", "N0 X--1", "N0 X1-", "N0 X1-1", "N0 -X1", "N0 X+1", "N0 X-+1"};
        for (String words : none) {
            dueFrame(words, false);
        }
    }

    private static void wordHasOneToFiveDecimals() {
        Bench.sentence("one to five decimals");
        for (String front : new String[] {"N0 G", "N0 G-", "N0 G1 X", "N0 G1 X-", "N0 Z"}) {
            dueFrame(front, false);
            dueFrame(front + "1", true);
            dueFrame(front + "12345", true);
            dueFrame(front + "99999", true);
            dueFrame(front + "00000", true);
            dueFrame(front + "123456", false);
            dueFrame(front + "000000", false);
            dueFrame(front + "1.5", false);
            dueFrame(front + " G1", false);
        }
        for (char c = 32; c <= 126; c++) {
            dueFrame("N0 X" + c, c >= '0' && c <= '9');
            dueFrame("N0 X-" + c, c >= '0' && c <= '9');
        }
        Bench.due("five decimals", Bench.send(new LayerFeeder(100), "N0 G00001 X00500"), 0);
    }

    private static void firstWordIsN() {
        Bench.sentence("The first word is N, without -");
        for (char c = 'A'; c <= 'Z'; c++) {
            dueFrame(c + "0 G90", c == 'N');
            dueFrame(c + "0 N0 G90", c == 'N');
        }
        dueFrame("N-0 G90", false);
        dueFrame("N-1 G90", false);
        dueFrame("n0 G90", false);
        dueFrame("0 G90", false);
        dueFrame("G90", false);
    }

    private static void numberHasOneToFiveDecimals() {
        Bench.sentence("the frame's number, 0 .. 99999");
        dueFrame("N G90", false);
        dueFrame("N0 G90", true);
        dueFrame("N00 G90", true);
        dueFrame("N00000 G90", true);
        dueFrame("N000000 G90", false);
        dueFrame("N100000 G90", false);
        LayerFeeder feeder = Bench.feederWith(100, "G90");
        Bench.due("N00001", Bench.send(feeder, "N00001 G90"), 1);
        Bench.due("wanted()", feeder.wanted(), 2);
    }

    private static void onlyTheWantedNumberIsTaken() {
        Bench.sentence("it is no frame, or not the one that is wanted, or its sum is wrong");
        LayerFeeder feeder = Bench.feederWith(100, "G1 X1");
        int[] others = {0, 2, 3, 10, 11, 257, 65537, 99999};
        for (int number : others) {
            Bench.due("N" + number, Bench.send(feeder, "N" + number + "G1X2"), LayerFeeder.REPEAT);
            Bench.due("N" + number, Bench.send(feeder, "N" + number + "G5"), LayerFeeder.REPEAT);
            Bench.due("wanted()", feeder.wanted(), 1);
        }
        Bench.due("no frame", Bench.receive(feeder, "N1G1X2"), LayerFeeder.REPEAT);
        Bench.due("a wrong sum", Bench.receive(feeder, "N1G1X2*98"), LayerFeeder.REPEAT);
        Bench.due("a wrong sum", Bench.receive(feeder, "N1G5*0"), LayerFeeder.REPEAT);
        Bench.dueCommanded("when nothing was done", feeder, 1, 0, 0);
        Bench.due("left()", feeder.left(), 1);
        Bench.due("N1", Bench.send(feeder, "N1G1X2"), 1);
        Bench.due("N1 again", Bench.send(feeder, "N1G1X3"), LayerFeeder.REPEAT);
        Bench.due("wanted()", feeder.wanted(), 2);
    }

    private static void sumIsOfAllCharactersBeforeTheStar() {
        Bench.sentence("what comes of all characters before * by exclusive or");
        dueText("N0 G90*16", true);
        dueText("N0G90*48", true);
        dueText("N0 G90 *48", true);
        dueText(" N0 G90*48", true);
        dueText(" N0 G90 *16", true);
        dueText("N0G90*16", false);
        dueText("N0 G90 *16", false);
        dueText(" N0 G90*16", false);
        dueText(" N0 G90 *48", false);
        int withStar = 16 ^ '*';
        dueText("N0 G90*" + withStar, false);
        int withoutN = 16 ^ 'N';
        dueText("N0 G90*" + withoutN, false);
    }

    private static void onlyOneSumIsRight() {
        Bench.sentence("The sum is right if it is what comes of all characters");
        for (int sum = 0; sum <= 999; sum++) {
            dueText("N0 G90*" + sum, sum == 16);
        }
    }

    private static void sumsOfAllSizesAreRight() {
        Bench.sentence("The sum is right if it is what comes of all characters");
        for (int x = 0; x <= 500; x++) {
            Bench.due("X" + x, Bench.send(new LayerFeeder(100), "N0G1X" + x), 0);
            Bench.due("E" + x, Bench.send(new LayerFeeder(100), "N0 G1E" + x), 0);
        }
        LayerFeeder feeder = new LayerFeeder(100);
        Bench.due("a sum of 126", Bench.receive(feeder, "N0*126"), LayerFeeder.WRONG);
        Bench.due("a sum of 127", Bench.receive(feeder, "N1*127"), LayerFeeder.WRONG);
        Bench.due("wanted()", feeder.wanted(), 2);
    }

    private static void textIsEmptyThenInAllCases() {
        Bench.sentence("In all cases the text is empty then");
        LayerFeeder feeder = new LayerFeeder(100);
        Bench.order(feeder, "G91");
        Bench.due("wipe() behind a number", feeder.wipe(), 0);
        Bench.due("no frame", Bench.receive(feeder, "N1 G90*99"), LayerFeeder.REPEAT);
        Bench.due("wipe() behind REPEAT", feeder.wipe(), 0);
        Bench.due("nothing", feeder.receive(), LayerFeeder.REPEAT);
        Bench.due("80 of nothing", Bench.receive(feeder, " ".repeat(80)), LayerFeeder.REPEAT);
        Bench.due("wipe() behind REPEAT", feeder.wipe(), 0);
        Bench.orderInVain(feeder, "G5", LayerFeeder.WRONG);
        Bench.due("wipe() behind WRONG", feeder.wipe(), 0);
        for (int i = 0; i < 8; i++) {
            Bench.order(feeder, "G1 X1");
        }
        Bench.orderInVain(feeder, "G1 X1", LayerFeeder.FULL);
        Bench.due("wipe() behind FULL", feeder.wipe(), 0);
    }

    private static void takenNumbersAreFollowedByTheNext() {
        Bench.sentence("Behind a number that was taken the next one is wanted");
        LayerFeeder feeder = new LayerFeeder(100);
        Bench.due("no command", Bench.send(feeder, "N0"), LayerFeeder.WRONG);
        Bench.due("wanted() behind WRONG", feeder.wanted(), 1);
        Bench.due("N0 again", Bench.send(feeder, "N0 G90"), LayerFeeder.REPEAT);
        Bench.due("wanted() behind REPEAT", feeder.wanted(), 1);
        Bench.due("a command", Bench.send(feeder, "N1 G90"), 1);
        Bench.due("wanted() behind a number", feeder.wanted(), 2);
        for (int i = 1; i <= 8; i++) {
            Bench.order(feeder, "G1 X" + i);
        }
        Bench.due("a block too many", Bench.send(feeder, "N10 G1 X9"), LayerFeeder.FULL);
        Bench.due("wanted() behind FULL", feeder.wanted(), 10);
        feeder.stop();
        Bench.due("the same one again", Bench.send(feeder, "N10 G1 X9"), 10);
    }

    private static void numbersGrowOverOneDecimal() {
        Bench.sentence("The number of the frame that is wanted");
        LayerFeeder feeder = new LayerFeeder(100);
        for (int number = 0; number < 120; number++) {
            Bench.due("wanted()", feeder.wanted(), number);
            Bench.due("N" + number, Bench.send(feeder, "N" + number + "G90"), number);
        }
    }
}
