/** THE TEXT, and promises 2 (write) and 3 (wipe). */
public final class TextTest {
    private static final String BLANKS = " ".repeat(80);

    public static void main(String[] args) {
        codesAre32To126();
        bytesAreTakenFromTheLowestOn();
        bytesThatAre0AreLeftOut();
        oneWrongCodeRefusesAll();
        textHolds80();
        refusedWritesLeaveTheText();
        textOf80IsAFrame();
        wipeTellsHowManyThereWere();
        textIsOpenWithoutPower();
        Bench.end();
    }

    private static LayerFeeder feederWithBlanks(int count) {
        LayerFeeder feeder = new LayerFeeder(100);
        Bench.write(feeder, BLANKS.substring(0, count));
        return feeder;
    }

    private static void codesAre32To126() {
        Bench.sentence("THE TEXT is a row of at most 80 characters with codes 32 .. 126");
        for (long code = 0; code <= 255; code++) {
            for (int shift = 0; shift < 64; shift += 8) {
                LayerFeeder feeder = new LayerFeeder(100);
                boolean right = code >= 32 && code <= 126;
                boolean taken = feeder.write(code << shift);
                Bench.due("write(" + code + " << " + shift + ")", taken, right || code == 0);
                Bench.due("wipe() behind code " + code, feeder.wipe(), right ? 1 : 0);
            }
        }
    }

    private static void bytesAreTakenFromTheLowestOn() {
        Bench.sentence("Adds up to eight characters: the bytes of the long, from the lowest on");
        LayerFeeder feeder = new LayerFeeder(100);
        Bench.due("write(N0 G90*1)", feeder.write(0x312A303947_20304EL), true);
        Bench.due("write(6)", feeder.write(0x36L), true);
        Bench.due("receive()", feeder.receive(), 0);
        for (int count = 0; count <= 8; count++) {
            long bytes = Bench.packed(BLANKS.substring(0, count));
            Bench.due("write of " + count, feeder.write(bytes), true);
            Bench.due("wipe() behind " + count, feeder.wipe(), count);
        }
    }

    private static void bytesThatAre0AreLeftOut() {
        Bench.sentence("but for those that are 0");
        LayerFeeder feeder = new LayerFeeder(100);
        Bench.due("write(0)", feeder.write(0L), true);
        Bench.due("wipe()", feeder.wipe(), 0);
        Bench.due("write(N, 0 0, 0)", feeder.write(0x3000_004EL), true);
        Bench.due("write(blank last)", feeder.write(0x2000_0000_0000_0000L), true);
        Bench.due("write(G90*16 with 0 within)", feeder.write(0x3600_312A_3039_0047L), true);
        Bench.due("receive()", feeder.receive(), 0);
    }

    private static void oneWrongCodeRefusesAll() {
        Bench.sentence("False, adding nothing, if one is not 32 .. 126");
        long eight = Bench.packed(BLANKS.substring(0, 8));
        int[] wrong = {1, 31, 127, 128, 255};
        LayerFeeder feeder = feederWithBlanks(3);
        for (int code : wrong) {
            for (int shift = 0; shift < 64; shift += 8) {
                long bytes = eight & ~(255L << shift) | (long) code << shift;
                Bench.due("write with " + code + " at " + shift, feeder.write(bytes), false);
            }
        }
        Bench.due("write(-1)", feeder.write(-1L), false);
        Bench.due("write(least)", feeder.write(Long.MIN_VALUE), false);
        Bench.due("write(127, then 0)", feeder.write(127L), false);
        Bench.due("wipe()", feeder.wipe(), 3);
        Bench.due("write(32 and 126)", feeder.write(126L << 56 | 32L), true);
        Bench.due("wipe()", feeder.wipe(), 2);
    }

    private static void textHolds80() {
        Bench.sentence("False, adding nothing, if they would be more than 80");
        for (int had = 71; had <= 80; had++) {
            for (int more = 0; more <= 8; more++) {
                LayerFeeder feeder = feederWithBlanks(had);
                boolean room = had + more <= 80;
                long bytes = Bench.packed(BLANKS.substring(0, more));
                Bench.due("write of " + more + " to " + had, feeder.write(bytes), room);
                Bench.due("wipe()", feeder.wipe(), room ? had + more : had);
            }
        }
        LayerFeeder feeder = feederWithBlanks(79);
        Bench.due("one, the others 0", feeder.write(0x41L << 56), true);
        Bench.due("one more, the others 0", feeder.write(0x41L << 56), false);
        Bench.due("a wrong one beyond 80", feeder.write(31L), false);
        Bench.due("none, at 80", feeder.write(0L), true);
        Bench.due("wipe()", feeder.wipe(), 80);
    }

    private static void refusedWritesLeaveTheText() {
        Bench.sentence("False, adding nothing");
        LayerFeeder feeder = new LayerFeeder(100);
        Bench.write(feeder, "N0 G90*1");
        Bench.due("write(1, then 31)", feeder.write(0x1F31L), false);
        Bench.due("write(6)", feeder.write(0x36L), true);
        Bench.due("receive()", feeder.receive(), 0);
        Bench.write(feeder, "N1 G90*17" + BLANKS.substring(0, 70));
        Bench.due("write to 81", feeder.write(Bench.packed("99")), false);
        Bench.due("receive()", feeder.receive(), 1);
    }

    private static void textOf80IsAFrame() {
        Bench.sentence("THE TEXT is a row of at most 80 characters");
        LayerFeeder feeder = new LayerFeeder(100);
        String front = BLANKS.substring(0, 71) + "N0G90";
        String whole = front + "*" + Bench.sum(front);
        Bench.due("characters in all", whole.length(), 79);
        Bench.due("79 characters", Bench.receive(feeder, whole), 0);
        String words = BLANKS.substring(0, 71) + "N1G90";
        String sum = "*0" + Bench.sum(words);
        Bench.due("80 characters", Bench.receive(feeder, words + sum), 1);
    }

    private static void wipeTellsHowManyThereWere() {
        Bench.sentence("Makes the text empty: how many characters it had");
        int[] counts = {0, 1, 7, 8, 9, 79, 80};
        for (int count : counts) {
            LayerFeeder feeder = feederWithBlanks(count);
            Bench.due("wipe() of " + count, feeder.wipe(), count);
            Bench.due("wipe() again", feeder.wipe(), 0);
            Bench.due("a frame behind it", Bench.send(feeder, "N0 G90"), 0);
            Bench.due("wipe() behind receive()", feeder.wipe(), 0);
        }
    }

    private static void textIsOpenWithoutPower() {
        Bench.sentence("In all calls that say so, illegal state: write and wipe do not");
        LayerFeeder feeder = Bench.cutOff(5);
        Bench.due("write() when off", feeder.write(0x41L), true);
        Bench.due("write(127) when off", feeder.write(127L), false);
        Bench.due("wipe() when off", feeder.wipe(), 1);
        Bench.write(feeder, "N0 G9");
        feeder.power();
        Bench.write(feeder, "0*16");
        feeder.home();
        Bench.due("what was written meanwhile", feeder.receive(), 0);
    }
}
