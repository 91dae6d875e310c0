/** What the tests share: sending frames, and comparing answers with those that are due. */
final class Bench {
    private static int wrong = 0;
    private static String sentence = "";

    private Bench() {
    }

    /** The words of the document by which the answers that are compared from now on are due. */
    static void sentence(String words) {
        sentence = words;
    }

    static void note(String what) {
        wrong++;
        System.out.println("\"" + sentence + "\": " + what);
    }

    static void due(String call, long got, long want) {
        if (got != want) {
            note(call + " answered " + got + ", due is " + want);
        }
    }

    static void due(String call, boolean got, boolean want) {
        due(call, got ? 1 : 0, want ? 1 : 0);
    }

    static void dueThrow(String call, Class<? extends RuntimeException> want, Runnable body) {
        String got = "nothing";
        try {
            body.run();
        } catch (RuntimeException e) {
            got = e.getClass().getName();
        }
        if (!got.equals(want.getName())) {
            note(call + " threw " + got + ", due is " + want.getName());
        }
    }

    static void duePlace(String when, LayerFeeder feeder, int x, int y, int e) {
        due(when + ": place(0)", feeder.place(0), x);
        due(when + ": place(1)", feeder.place(1), y);
        due(when + ": place(2)", feeder.place(2), e);
    }

    static void dueCommanded(String when, LayerFeeder feeder, int x, int y, int e) {
        due(when + ": commanded(0)", feeder.commanded(0), x);
        due(when + ": commanded(1)", feeder.commanded(1), y);
        due(when + ": commanded(2)", feeder.commanded(2), e);
    }

    static void dueSlot(String when, LayerFeeder feeder, int slot, int... numbers) {
        for (int k = 0; k < 4; k++) {
            due(when + ": slot(" + slot + ", " + k + ")", feeder.slot(slot, k), numbers[k]);
        }
    }

    /** The entries of all blocks in the row, and with each the exit of the one before it. */
    static void dueEntries(String when, LayerFeeder feeder, int... entries) {
        due(when + ": left()", feeder.left(), entries.length);
        for (int i = 0; i < entries.length && i < feeder.left(); i++) {
            due(when + ": plan(" + i + ", 0)", feeder.plan(i, 0), entries[i]);
            int exit = i + 1 < entries.length ? entries[i + 1] : 0;
            due(when + ": plan(" + i + ", 1)", feeder.plan(i, 1), exit);
        }
    }

    static long packed(String characters) {
        long bytes = 0;
        for (int i = characters.length() - 1; i >= 0; i--) {
            bytes = bytes << 8 | characters.charAt(i);
        }
        return bytes;
    }

    static void write(LayerFeeder feeder, String text) {
        for (int from = 0; from < text.length(); from += 8) {
            String part = text.substring(from, Math.min(text.length(), from + 8));
            due("write(" + part + ")", feeder.write(packed(part)), true);
        }
    }

    static int sum(String text) {
        int sum = 0;
        for (char c : text.toCharArray()) {
            sum ^= c;
        }
        return sum;
    }

    /** What is received behind a text that is given whole. */
    static int receive(LayerFeeder feeder, String text) {
        write(feeder, text);
        return feeder.receive();
    }

    /** What is received behind words with their right sum. */
    static int send(LayerFeeder feeder, String words) {
        return receive(feeder, words + "*" + sum(words));
    }

    /** Sends a command in the frame that is wanted, and it is carried out. */
    static void order(LayerFeeder feeder, String command) {
        int number = feeder.wanted();
        due("N" + number + " " + command, send(feeder, "N" + number + " " + command), number);
        due("wanted() behind " + command, feeder.wanted(), number + 1);
    }

    /** Sends a command in the frame that is wanted, and it is not carried out. */
    static void orderInVain(LayerFeeder feeder, String command, int want) {
        int number = feeder.wanted();
        due("N" + number + " " + command, send(feeder, "N" + number + " " + command), want);
        int next = want == LayerFeeder.WRONG ? number + 1 : number;
        due("wanted() behind " + command, feeder.wanted(), next);
    }

    static LayerFeeder feederWith(int acceleration, String... commands) {
        LayerFeeder feeder = new LayerFeeder(acceleration);
        for (String command : commands) {
            order(feeder, command);
        }
        return feeder;
    }

    /** Carries a command out, and passes as many ticks as any one block of the tests needs. */
    static void doWhole(LayerFeeder feeder, String command) {
        order(feeder, command);
        feeder.run(20000);
    }

    /** A feeder that was cut while its first block ended, of which so many words were written. */
    static LayerFeeder cutOff(int words) {
        LayerFeeder feeder = feederWith(1000, "G1 X3 Y2 E-1 F1000");
        feeder.cut(words);
        feeder.run(20000);
        return feeder;
    }

    /** Two blocks have ended, and the third one was cut after so many words. */
    static LayerFeeder cutAtTheThird(int words) {
        LayerFeeder feeder = new LayerFeeder(1000);
        doWhole(feeder, "G1 X3 Y2 E-1 F1000");
        doWhole(feeder, "G1 X4 Y5 E-6");
        feeder.cut(words);
        doWhole(feeder, "G1 X7 Y8 E-9");
        return feeder;
    }

    static void end() {
        if (wrong > 0) {
            System.exit(1);
        }
    }
}
