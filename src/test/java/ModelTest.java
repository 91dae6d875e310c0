import java.util.LinkedHashMap;
import java.util.Map;
import java.util.Random;

/** Many mixed runs, all promises: the program answers as the plain model does. */
public final class ModelTest {
    private static final int RUNS = 4000;
    private static final int MOST_CALLS = 512;
    private static final int CALLS_OF_A_STEP = 20;
    private static final int CALLS_OF_A_LOOK = 17 + 4 * 8;
    private static final int[] CODES = {1, 1, 1, 1, 1, 1, 1, 1, 4, 4, 90, 91, 91, 92, 1, 3};

    private final Random random;
    private final LayerFeeder feeder;
    private final PlainModel model;
    private final String name;
    private final int reach;
    private int calls = 0;

    private ModelTest(int seed) {
        random = new Random(seed);
        int[] accelerations = {1, 2, 5, 30, 100, 1000, 1 + random.nextInt(1000)};
        int acceleration = accelerations[random.nextInt(accelerations.length)];
        feeder = new LayerFeeder(acceleration);
        model = new PlainModel(acceleration);
        reach = random.nextBoolean() ? 12 : 300;
        name = "run " + seed + " (" + acceleration + ")";
    }

    public static void main(String[] args) {
        Bench.sentence("Promises 1 to 19, in mixed runs");
        for (int seed = 0; seed < RUNS; seed++) {
            new ModelTest(seed).play();
        }
        Bench.end();
    }

    private void play() {
        String did = "new";
        while (calls <= MOST_CALLS - CALLS_OF_A_STEP - 2 * CALLS_OF_A_LOOK) {
            did = !model.on ? powerUp() : model.lost ? findItself() : work();
            if (random.nextInt(6) == 0) {
                compare(name + ", behind call " + calls + ", " + did);
            }
        }
        compare(name + ", behind call " + calls + ", " + did);
    }

    private void due(String call, long got, long want) {
        calls++;
        Bench.due(name + ", call " + calls + ": " + call, got, want);
    }

    private String powerUp() {
        calls++;
        feeder.power();
        model.power();
        return "power()";
    }

    private String findItself() {
        if (random.nextInt(3) == 0) {
            boolean held = random.nextBoolean();
            due("hold(" + held + ")", feeder.hold(held) ? 1 : 0, model.hold(held) ? 1 : 0);
            return "hold(" + held + ")";
        }
        if (random.nextInt(3) > 0 && Math.max(model.slots[0][3], model.slots[1][3]) > 0) {
            due("resume()", feeder.resume(), model.resume());
            return "resume()";
        }
        calls++;
        feeder.home();
        model.home();
        return "home()";
    }

    private String work() {
        int die = random.nextInt(100);
        if (die < 55) {
            return sendCommand();
        }
        if (die < 70) {
            due("tick()", feeder.tick(), model.tick());
            return "tick()";
        }
        if (die < 90) {
            int n = 1 + random.nextInt(random.nextInt(8) == 0 ? 5000 : 300);
            due("run(" + n + ")", feeder.run(n), model.run(n));
            return "run(" + n + ")";
        }
        if (die < 96) {
            boolean held = random.nextInt(3) == 0;
            due("hold(" + held + ")", feeder.hold(held) ? 1 : 0, model.hold(held) ? 1 : 0);
            return "hold(" + held + ")";
        }
        if (die < 97) {
            due("stop()", feeder.stop(), model.stop());
            return "stop()";
        }
        int words = random.nextInt(7) - 1;
        calls++;
        feeder.cut(words);
        model.cut(words);
        return "cut(" + words + ")";
    }

    private String sendCommand() {
        int code = CODES[random.nextInt(CODES.length)];
        Map<Character, Integer> words = new LinkedHashMap<>();
        if (code == 4 || random.nextInt(40) == 0) {
            words.put('P', random.nextInt(random.nextBoolean() ? 20 : 205));
        }
        if (code == 1 && random.nextInt(4) == 0) {
            words.put('F', random.nextInt(random.nextBoolean() ? 60 : 1005));
        }
        int axes = code == 1 || code == 92 ? random.nextInt(8) : 0;
        for (int axis = 0; axis < 3; axis++) {
            if ((axes >> axis & 1) == 1) {
                words.put("XYE".charAt(axis), random.nextInt(2 * reach) - reach / 2);
            }
        }
        StringBuilder text = new StringBuilder(blanks()).append('N').append(model.wanted);
        text.append(blanks()).append('G').append(code);
        words.forEach((letter, value) -> text.append(blanks()).append(letter).append(value));
        text.append(blanks());
        String sent = text.toString();
        calls += (sent.length() + 11) / 8;
        due("<" + sent + ">", Bench.send(feeder, sent), model.take(code, words));
        return "<" + sent + ">";
    }

    private String blanks() {
        return " ".repeat(random.nextInt(3));
    }

    private void compare(String when) {
        int left = feeder.left();
        calls += 17 + 4 * left;
        Bench.due(when + ": wanted()", feeder.wanted(), model.wanted);
        Bench.due(when + ": busy()", feeder.busy(), model.atWork);
        Bench.duePlace(when, feeder, model.place[0], model.place[1], model.place[2]);
        Bench.dueCommanded(when, feeder, model.commanded[0], model.commanded[1],
            model.commanded[2]);
        Bench.dueSlot(when, feeder, 0, model.slots[0]);
        Bench.dueSlot(when, feeder, 1, model.slots[1]);
        Bench.due(when + ": left()", left, model.row.size());
        model.plan();
        for (int i = 0; i < Math.min(left, model.row.size()); i++) {
            PlainModel.Block block = model.row.get(i);
            Bench.due(when + ": plan(" + i + ", 0)", feeder.plan(i, 0), block.entry);
            Bench.due(when + ": plan(" + i + ", 1)", feeder.plan(i, 1), model.exit(i));
            Bench.due(when + ": plan(" + i + ", 2)", feeder.plan(i, 2), block.length);
            Bench.due(when + ": plan(" + i + ", 3)", feeder.plan(i, 3), block.top);
        }
    }
}
