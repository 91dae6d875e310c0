/** Promises 2 (write) and 3 (wipe). */
public final class TextTest {
    private static final long EIGHT = Bench.packed("        ");

    public static void main(String[] args) {
        bytesAreTakenFromTheLowestOn();
        bytesThatAre0AreLeftOut();
        otherCharactersAreRefused();
        textHolds80();
        textIsWipedOnce();
        textIsOpenWithoutPower();
        Bench.end();
    }

    private static void bytesAreTakenFromTheLowestOn() {
        LayerFeeder feeder = new LayerFeeder(100);
        Bench.due("write(N0 G90*1)", feeder.write(0x312A303947_20304EL), true);
        Bench.due("write(6)", feeder.write(0x36L), true);
        Bench.due("receive()", feeder.receive(), 0);
    }

    private static void bytesThatAre0AreLeftOut() {
        LayerFeeder feeder = new LayerFeeder(100);
        Bench.due("write(0)", feeder.write(0L), true);
        Bench.due("wipe()", feeder.wipe(), 0);
        Bench.due("write(N, then 0)", feeder.write(0x3000_004EL), true);
        Bench.due("write(blank last)", feeder.write(0x2000_0000_0000_0000L), true);
        Bench.due("write(G90*16)", feeder.write(0x3600_312A_3039_0047L), true);
        Bench.due("receive()", feeder.receive(), 0);
    }

    private static void otherCharactersAreRefused() {
        LayerFeeder feeder = new LayerFeeder(100);
        int[] wrong = {1, 9, 10, 31, 127, 128, 160, 255};
        for (int code : wrong) {
            for (int shift = 0; shift < 64; shift += 8) {
                long bytes = EIGHT & ~(255L << shift) | (long) code << shift;
                Bench.due("write with " + code + " at " + shift, feeder.write(bytes), false);
            }
        }
        Bench.due("write(-1)", feeder.write(-1L), false);
        Bench.due("write(least)", feeder.write(Long.MIN_VALUE), false);
        Bench.due("wipe()", feeder.wipe(), 0);
        Bench.due("write(32, 126)", feeder.write(126L << 56 | 32L), true);
        Bench.due("wipe()", feeder.wipe(), 2);
    }

    private static void textHolds80() {
        LayerFeeder feeder = new LayerFeeder(100);
        for (int i = 0; i < 9; i++) {
            feeder.write(EIGHT);
        }
        Bench.due("write to 79", feeder.write(Bench.packed("       ")), true);
        Bench.due("write to 81", feeder.write(Bench.packed("  ")), false);
        Bench.due("write to 80", feeder.write(Bench.packed(" ")), true);
        Bench.due("write to 81", feeder.write(Bench.packed(" ")), false);
        Bench.due("write to 88", feeder.write(EIGHT), false);
        Bench.due("write(0) to 80", feeder.write(0L), true);
        Bench.due("wipe()", feeder.wipe(), 80);
    }

    private static void textIsWipedOnce() {
        LayerFeeder feeder = new LayerFeeder(100);
        Bench.write(feeder, "N0 G90*17");
        Bench.due("wipe()", feeder.wipe(), 9);
        Bench.due("wipe()", feeder.wipe(), 0);
        Bench.due("a frame behind it", Bench.send(feeder, "N0 G90"), 0);
        Bench.due("wipe() behind receive()", feeder.wipe(), 0);
    }

    private static void textIsOpenWithoutPower() {
        LayerFeeder feeder = Bench.cutOff(5);
        Bench.write(feeder, "N0 G9");
        feeder.power();
        Bench.write(feeder, "0*16");
        feeder.home();
        Bench.due("what was written meanwhile", feeder.receive(), 0);
    }
}
