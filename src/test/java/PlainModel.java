import java.util.ArrayList;
import java.util.List;
import java.util.Map;

/**
 * The document's terms, put down as slowly and plainly as they are said there, without the text of
 * the frames: what ModelTest compares the program with. It is asked only what may be asked.
 */
final class PlainModel {
    static final class Block {
        final int[] d = new int[3];
        boolean dwell;
        int length;
        int top;
        int entry;
        int exit;
    }

    final int a;
    final List<Block> row = new ArrayList<>();
    final int[] place = new int[3];
    final int[] commanded = new int[3];
    final int[][] slots = new int[2][4];
    int wanted = 0;
    boolean on = true;
    boolean lost = false;
    boolean held = false;
    boolean atWork = false;
    int leadingSteps = 0;

    private final int[] zeroAt = new int[3];
    private boolean differences = false;
    private int speed = 100;
    private int cut = -1;
    private int ended = 0;
    private int stepsOfBlock = 0;
    private int ticksOfStep = 0;

    PlainModel(int acceleration) {
        a = acceleration;
    }

    /** Carries out G code with the words told, each once, in the frame that is wanted. */
    int take(int code, Map<Character, Integer> words) {
        int outcome = carryOut(code, words);
        if (outcome == LayerFeeder.FULL) {
            return outcome;
        }
        wanted++;
        return outcome == 0 ? wanted - 1 : outcome;
    }

    private int carryOut(int code, Map<Character, Integer> words) {
        String letters = code == 1 ? "XYEF" : code == 92 ? "XYE" : code == 4 ? "P" : "";
        for (char letter : words.keySet()) {
            if (letters.indexOf(letter) < 0) {
                return LayerFeeder.WRONG;
            }
        }
        switch (code) {
            case 1:
                return move(words);
            case 4:
                return dwell(words);
            case 90:
            case 91:
                differences = code == 91;
                return 0;
            case 92:
                for (int axis = 0; axis < 3; axis++) {
                    Integer value = words.get("XYE".charAt(axis));
                    zeroAt[axis] = value == null ? zeroAt[axis] : commanded[axis] - value;
                }
                return 0;
            default:
                return LayerFeeder.WRONG;
        }
    }

    private int dwell(Map<Character, Integer> words) {
        Integer ticks = words.get('P');
        if (ticks == null || ticks < 1 || ticks > 200) {
            return LayerFeeder.WRONG;
        }
        if (row.size() == 8) {
            return LayerFeeder.FULL;
        }
        Block block = new Block();
        block.dwell = true;
        block.length = ticks;
        row.add(block);
        return 0;
    }

    private int move(Map<Character, Integer> words) {
        Integer f = words.get('F');
        if (f != null && (f < 1 || f > 1000)) {
            return LayerFeeder.WRONG;
        }
        Block block = new Block();
        for (int axis = 0; axis < 3; axis++) {
            Integer told = words.get("XYE".charAt(axis));
            if (told != null) {
                block.d[axis] = differences ? told : told + zeroAt[axis] - commanded[axis];
            }
            int end = commanded[axis] + block.d[axis];
            boolean within = axis == 2 ? Math.abs(end) <= 99999 : end >= 0 && end <= 999;
            if (!within || Math.abs(block.d[axis]) > 500) {
                return LayerFeeder.WRONG;
            }
            block.length = Math.max(block.length, Math.abs(block.d[axis]));
        }
        if (block.length > 0 && row.size() == 8) {
            return LayerFeeder.FULL;
        }
        speed = f == null ? speed : f;
        block.top = speed * speed;
        if (block.length > 0) {
            row.add(block);
            for (int axis = 0; axis < 3; axis++) {
                commanded[axis] += block.d[axis];
            }
        }
        return 0;
    }

    /** Begins with what no bound but its own allows, and lowers until nothing is too far apart. */
    void plan() {
        int first = atWork ? 1 : 0;
        for (int i = first; i < row.size(); i++) {
            Block block = row.get(i);
            block.entry = i == first
                ? (atWork ? row.get(0).exit : 0)
                : Math.min(block.top, joint(row.get(i - 1), block));
        }
        for (int again = 0; again <= row.size(); again++) {
            for (int i = first; i < row.size(); i++) {
                Block block = row.get(i);
                int far = 2 * a * block.length;
                Block next = i + 1 < row.size() ? row.get(i + 1) : new Block();
                block.entry = Math.min(block.entry, next.entry + far);
                next.entry = Math.min(next.entry, block.entry + far);
            }
        }
    }

    private static int joint(Block one, Block other) {
        long s = 0;
        long dd = 0;
        long ee = 0;
        for (int axis = 0; axis < 3; axis++) {
            s += one.d[axis] * other.d[axis];
            dd += one.d[axis] * one.d[axis];
            ee += other.d[axis] * other.d[axis];
        }
        if (one.dwell || other.dwell || s <= 0) {
            return 0;
        }
        return (int) (Math.min(one.top, other.top) * s * s / (dd * ee));
    }

    int exit(int i) {
        if (atWork && i == 0) {
            return row.get(0).exit;
        }
        return i + 1 < row.size() ? row.get(i + 1).entry : 0;
    }

    private void begin() {
        if (atWork || held || row.isEmpty()) {
            return;
        }
        plan();
        row.get(0).exit = exit(0);
        atWork = true;
        stepsOfBlock = 0;
        ticksOfStep = 0;
    }

    int tick() {
        begin();
        if (!atWork) {
            return 0;
        }
        Block block = row.get(0);
        ticksOfStep++;
        if (ticksOfStep < (block.dwell ? block.length : ticks(block, stepsOfBlock + 1))) {
            return 0;
        }
        ticksOfStep = 0;
        int bits = block.dwell ? 0 : step(block);
        if (block.dwell || stepsOfBlock == block.length) {
            endBlock();
        }
        return bits;
    }

    private int ticks(Block block, int k) {
        int s = Math.min(block.top, Math.min(block.entry + 2 * a * k,
            block.exit + 2 * a * (block.length - k + 1)));
        return Math.max(1, 1000 / (int) Math.floor(Math.sqrt(s)));
    }

    private int step(Block block) {
        stepsOfBlock++;
        leadingSteps++;
        int bits = 0;
        for (int axis = 0; axis < 3; axis++) {
            long size = Math.abs(block.d[axis]);
            long now = Math.round(size * stepsOfBlock / (double) block.length);
            long before = Math.round(size * (stepsOfBlock - 1) / (double) block.length);
            if (now > before) {
                place[axis] += block.d[axis] > 0 ? 1 : -1;
                bits += (block.d[axis] > 0 ? 1 : 9) << axis;
            }
        }
        return bits;
    }

    private void endBlock() {
        // The one behind it has its entry from the plan that the block at work belongs to.
        plan();
        row.remove(0);
        ended++;
        int[] slot = slots[ended % 2];
        int[][] words = {{3, 0}, {0, place[0]}, {1, place[1]}, {2, place[2]}, {3, ended}};
        for (int w = 0; w < (cut < 0 ? 5 : cut); w++) {
            slot[words[w][0]] = words[w][1];
        }
        atWork = false;
        if (cut >= 0) {
            on = false;
            stop();
            cut = -1;
            held = false;
        } else if (!held && !row.isEmpty()) {
            row.get(0).exit = exit(0);
            atWork = true;
            stepsOfBlock = 0;
        }
    }

    int run(int n) {
        int before = leadingSteps;
        for (int t = 0; t < n && on; t++) {
            tick();
        }
        return leadingSteps - before;
    }

    boolean hold(boolean whether) {
        boolean other = held != whether;
        held = whether;
        return other;
    }

    int stop() {
        int taken = row.size();
        row.clear();
        atWork = false;
        System.arraycopy(place, 0, commanded, 0, 3);
        return taken;
    }

    void cut(int words) {
        cut = words;
    }

    void power() {
        on = true;
        lost = true;
        wanted = 0;
        differences = false;
        speed = 100;
        ended = Math.max(slots[0][3], slots[1][3]);
        for (int axis = 0; axis < 3; axis++) {
            place[axis] = 0;
            commanded[axis] = 0;
            zeroAt[axis] = 0;
        }
    }

    void home() {
        lost = false;
    }

    int resume() {
        int[] slot = slots[0][3] > slots[1][3] ? slots[0] : slots[1];
        System.arraycopy(slot, 0, place, 0, 3);
        System.arraycopy(slot, 0, commanded, 0, 3);
        lost = false;
        return slot[3];
    }
}
