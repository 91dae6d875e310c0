import java.util.NoSuchElementException;

/**
 * Takes commands in numbered frames with sums, plans how fast moves may follow one another, makes
 * the steps of three axes tick by tick, and keeps after each block where it is, so that it goes on
 * after a cut of power.
 */
public final class LayerFeeder {
    /** It is no frame, or not the one that is wanted, or its sum is wrong. */
    public static final int REPEAT = -1;
    /** A block would come, and there are 8 in the row. */
    public static final int FULL = -2;
    /** The command is not right, or its move not possible. */
    public static final int WRONG = -3;

    private static final int DONE = 0;
    private static final int AXES = 3;
    private static final String AXIS_LETTERS = "XYE";
    private static final int FIRST_DOWN_BIT = 8;

    private static final int MOST_ACCELERATION = 1000;
    private static final int USUAL_ACCELERATION = 100;
    private static final int USUAL_SPEED = 100;
    private static final int MOST_TICKS = 20000;
    private static final int MOST_TRAVEL = 500;
    private static final int LAST_STEP_OF_TABLE = 999;
    private static final int LAST_STEP_OF_FEED = 99999;
    private static final int FEED_AXIS = 2;

    private static final int NO_CUT = -1;

    private final Text text = new Text();
    private final Frame frame = new Frame();
    private final Command command = new Command();
    private final Row row;
    private final Slots slots = new Slots();
    private final int[] reached = new int[AXES];
    private final int[] ordered = new int[AXES];
    private final int[] origin = new int[AXES];
    private final int[] target = new int[AXES];

    private boolean powered = true;
    private boolean lost = false;
    private boolean holding = false;
    private boolean differences = false;
    private int speed = USUAL_SPEED;
    private int nextNumber = 0;
    private int cutAfter = NO_CUT;

    public LayerFeeder(int acceleration) {
        boolean usable = acceleration >= 1 && acceleration <= MOST_ACCELERATION;
        row = new Row(usable ? acceleration : USUAL_ACCELERATION);
    }

    public boolean write(long characters) {
        return text.add(characters);
    }

    public int wipe() {
        return text.clear();
    }

    public int receive() throws IllegalStateException {
        refuseUnlessReady();
        int answer = takeFrame();
        text.clear();
        return answer;
    }

    public int wanted() {
        return nextNumber;
    }

    public int tick() throws IllegalStateException {
        refuseUnlessReady();
        return passTick();
    }

    public int run(int n) throws IllegalArgumentException, IllegalStateException {
        if (n < 1 || n > MOST_TICKS) {
            throw new IllegalArgumentException("n is not 1 .. 20000");
        }
        refuseUnlessReady();
        int leadingSteps = 0;
        for (int passed = 0; passed < n && powered; passed++) {
            passed += skipQuietTicks(n - 1 - passed);
            // The leading axis steps with every leading step, so such a tick never answers 0.
            if (passTick() != 0) {
                leadingSteps++;
            }
        }
        return leadingSteps;
    }

    public int place(int axis) throws IllegalArgumentException {
        refuseUnlessAxis(axis);
        return reached[axis];
    }

    public int commanded(int axis) throws IllegalArgumentException {
        refuseUnlessAxis(axis);
        return ordered[axis];
    }

    public int left() {
        return row.count;
    }

    public int plan(int i, int what) throws IllegalArgumentException, IndexOutOfBoundsException {
        if (what < 0 || what > 3) {
            throw new IllegalArgumentException("what is none of 0 .. 3");
        }
        if (i < 0 || i >= row.count) {
            throw new IndexOutOfBoundsException("there is no such block");
        }
        Block block = row.get(i);
        switch (what) {
            case 0: return block.entry;
            case 1: return row.exitOf(i);
            case 2: return block.length;
            default: return block.top;
        }
    }

    public boolean busy() {
        return row.atWork;
    }

    public boolean hold(boolean held) throws IllegalStateException {
        if (!powered) {
            throw new IllegalStateException("the power is off");
        }
        boolean other = held != holding;
        holding = held;
        return other;
    }

    public int stop() throws IllegalStateException {
        refuseUnlessReady();
        int taken = row.clear();
        copyPlace(reached, ordered);
        return taken;
    }

    public void cut(int words) throws IllegalArgumentException, IllegalStateException {
        if (words < NO_CUT || words > Slots.WORDS) {
            throw new IllegalArgumentException("words is not -1 .. 5");
        }
        refuseUnlessReady();
        cutAfter = words;
    }

    public void power() throws IllegalStateException {
        if (powered) {
            throw new IllegalStateException("the power is on");
        }
        powered = true;
        lost = true;
        differences = false;
        speed = USUAL_SPEED;
        nextNumber = 0;
        for (int axis = 0; axis < AXES; axis++) {
            reached[axis] = 0;
            ordered[axis] = 0;
            origin[axis] = 0;
        }
        slots.countOn();
    }

    public void home() throws IllegalStateException {
        refuseUnlessLost();
        // Since the power came nothing can have moved: the place is 0 already.
        lost = false;
    }

    public int resume() throws IllegalStateException, NoSuchElementException {
        refuseUnlessLost();
        int newest = slots.newest();
        int ended = slots.number(newest, Slots.MARK);
        if (ended == 0) {
            throw new NoSuchElementException("both slots are empty");
        }
        for (int axis = 0; axis < AXES; axis++) {
            reached[axis] = slots.number(newest, axis);
        }
        copyPlace(reached, ordered);
        lost = false;
        return ended;
    }

    public int slot(int slot, int k) throws IndexOutOfBoundsException {
        if (slot < 0 || slot >= Slots.SLOTS || k < 0 || k >= Slots.NUMBERS) {
            throw new IndexOutOfBoundsException("there is no such slot or number");
        }
        return slots.number(slot, k);
    }

    private void refuseUnlessReady() {
        if (!powered || lost) {
            throw new IllegalStateException("the power is off, or it is lost");
        }
    }

    private void refuseUnlessLost() {
        if (!powered || !lost) {
            throw new IllegalStateException("it is not lost, or the power is off");
        }
    }

    private static void refuseUnlessAxis(int axis) {
        if (axis < 0 || axis >= AXES) {
            throw new IllegalArgumentException("there is no such axis");
        }
    }

    private static void copyPlace(int[] from, int[] to) {
        System.arraycopy(from, 0, to, 0, AXES);
    }

    private int takeFrame() {
        if (!frame.read(text) || frame.number() != nextNumber) {
            return REPEAT;
        }
        int outcome = carryOut();
        if (outcome == FULL) {
            return FULL;
        }
        int number = nextNumber;
        nextNumber++;
        return outcome == WRONG ? WRONG : number;
    }

    private int carryOut() {
        if (!command.read(frame)) {
            return WRONG;
        }
        switch (command.code) {
            case Command.MOVE:
                return orderMove();
            case Command.DWELL:
                return orderDwell();
            case Command.ORIGIN:
                setOrigin();
                return DONE;
            default:
                differences = command.code == Command.DIFFERENCES;
                return DONE;
        }
    }

    private int orderMove() {
        boolean moves = findTarget();
        if (!isTargetPossible()) {
            return WRONG;
        }
        if (moves && row.isFull()) {
            return FULL;
        }
        if (command.tells('F')) {
            speed = command.value('F');
        }
        if (moves) {
            row.addMove(ordered, target, speed);
            copyPlace(target, ordered);
        }
        return DONE;
    }

    private int orderDwell() {
        if (row.isFull()) {
            return FULL;
        }
        row.addDwell(command.value('P'));
        return DONE;
    }

    private void setOrigin() {
        for (int axis = 0; axis < AXES; axis++) {
            char letter = AXIS_LETTERS.charAt(axis);
            if (command.tells(letter)) {
                origin[axis] = ordered[axis] - command.value(letter);
            }
        }
    }

    /** Whether the target is another place than the commanded one. */
    private boolean findTarget() {
        boolean moves = false;
        for (int axis = 0; axis < AXES; axis++) {
            char letter = AXIS_LETTERS.charAt(axis);
            int from = ordered[axis];
            target[axis] = from;
            if (command.tells(letter)) {
                target[axis] = command.value(letter) + (differences ? from : origin[axis]);
            }
            moves = moves || target[axis] != from;
        }
        return moves;
    }

    private boolean isTargetPossible() {
        for (int axis = 0; axis < AXES; axis++) {
            int least = axis == FEED_AXIS ? -LAST_STEP_OF_FEED : 0;
            int most = axis == FEED_AXIS ? LAST_STEP_OF_FEED : LAST_STEP_OF_TABLE;
            int travel = Math.abs(target[axis] - ordered[axis]);
            if (target[axis] < least || target[axis] > most || travel > MOST_TRAVEL) {
                return false;
            }
        }
        return true;
    }

    private void beginIfIdle() {
        if (!row.atWork && !holding) {
            row.begin();
        }
    }

    /**
     * Passes ticks with which no step is made and no block ends, so that a long run need not look
     * at each of them: how many, at most as many as told.
     */
    private int skipQuietTicks(int most) {
        beginIfIdle();
        return row.atWork ? row.skipTicks(most) : most;
    }

    private int passTick() {
        beginIfIdle();
        if (!row.atWork || !row.countTick()) {
            return 0;
        }
        int bits = row.get(0).isDwell() ? 0 : makeLeadingStep();
        if (row.isWorkDone()) {
            endBlock();
        }
        return bits;
    }

    private int makeLeadingStep() {
        Block block = row.get(0);
        int before = row.stepsMade;
        int bits = 0;
        for (int axis = 0; axis < AXES; axis++) {
            int step = block.stepsAfter(axis, before + 1) - block.stepsAfter(axis, before);
            reached[axis] += step;
            if (step != 0) {
                bits |= 1 << axis;
            }
            if (step < 0) {
                bits |= FIRST_DOWN_BIT << axis;
            }
        }
        row.countStep();
        return bits;
    }

    private void endBlock() {
        row.dropFirst();
        if (cutAfter != NO_CUT) {
            slots.keep(reached, cutAfter);
            losePower();
            return;
        }
        slots.keep(reached, Slots.WORDS);
        if (holding) {
            // Held, it comes to rest: the next block begins from 0, whatever exit was planned.
            row.replan();
        } else {
            row.begin();
        }
    }

    private void losePower() {
        powered = false;
        row.clear();
        copyPlace(reached, ordered);
        text.clear();
        cutAfter = NO_CUT;
        holding = false;
    }

    /** The characters that were written and not yet received. */
    private static final class Text {
        static final int MOST = 80;
        private static final char NOTHING = 0;

        private final char[] characters = new char[MOST];
        private int length = 0;

        boolean add(long bytes) {
            int end = length;
            for (int shift = 0; shift < 64; shift += 8) {
                int code = (int) (bytes >>> shift) & 255;
                if (code == 0) {
                    continue;
                }
                if (code < 32 || code > 126 || end >= MOST) {
                    return false;
                }
                characters[end] = (char) code;
                end++;
            }
            length = end;
            return true;
        }

        int clear() {
            int had = length;
            length = 0;
            return had;
        }

        char at(int i) {
            return i >= 0 && i < length ? characters[i] : NOTHING;
        }

        boolean endsAt(int i) {
            return i == length;
        }

        int skipBlanks(int from) {
            int end = from;
            while (end < length && at(end) == ' ') {
                end++;
            }
            return end;
        }

        int skipDecimals(int from, int most) {
            int end = from;
            while (end < from + most && at(end) >= '0' && at(end) <= '9') {
                end++;
            }
            return end;
        }

        int decimals(int from, int end) {
            int number = 0;
            for (int i = from; i < end; i++) {
                number = number * 10 + (at(i) - '0');
            }
            return number;
        }

        int exclusiveOrBefore(int end) {
            int sum = 0;
            for (int i = 0; i < end; i++) {
                sum ^= at(i);
            }
            return sum;
        }
    }

    /** The words of the text, read as a frame. */
    private static final class Frame {
        /** No word is shorter than two characters. */
        private static final int MOST_WORDS = Text.MOST / 2;
        private static final int MOST_WORD_DECIMALS = 5;
        private static final int MOST_SUM_DECIMALS = 3;
        private static final int NO_WORD = -1;

        private final char[] letters = new char[MOST_WORDS];
        private final int[] values = new int[MOST_WORDS];
        private int count = 0;

        /** Whether the text is a frame whose sum is right. */
        boolean read(Text text) {
            count = 0;
            int at = text.skipBlanks(0);
            for (int k = 0; k < MOST_WORDS && isCapital(text.at(at)); k++) {
                int end = readWord(text, at);
                if (end == NO_WORD) {
                    return false;
                }
                at = text.skipBlanks(end);
            }
            return count > 0 && isSumRight(text, at);
        }

        int number() {
            return values[0];
        }

        private int readWord(Text text, int at) {
            char letter = text.at(at);
            boolean minus = text.at(at + 1) == '-';
            if (count == 0 && (letter != 'N' || minus)) {
                return NO_WORD;
            }
            int from = minus ? at + 2 : at + 1;
            int end = text.skipDecimals(from, MOST_WORD_DECIMALS);
            if (end == from || count >= MOST_WORDS) {
                return NO_WORD;
            }
            int size = text.decimals(from, end);
            letters[count] = letter;
            values[count] = minus ? -size : size;
            count++;
            return end;
        }

        private static boolean isSumRight(Text text, int star) {
            int from = star + 1;
            int end = text.skipDecimals(from, MOST_SUM_DECIMALS);
            return text.at(star) == '*'
                && end > from
                && text.endsAt(text.skipBlanks(end))
                && text.decimals(from, end) == text.exclusiveOrBefore(star);
        }

        private static boolean isCapital(char c) {
            return c >= 'A' && c <= 'Z';
        }
    }

    /** What the words of a frame behind its number ask for. */
    private static final class Command {
        static final int MOVE = 1;
        static final int DWELL = 4;
        static final int VALUES = 90;
        static final int DIFFERENCES = 91;
        static final int ORIGIN = 92;

        private static final int LETTERS = 26;
        private static final int MOST_DWELL = 200;
        private static final int MOST_SPEED = 1000;

        private final int[] values = new int[LETTERS];
        private int toldLetters = 0;
        private int code = 0;

        /** Whether the command is right. */
        boolean read(Frame frame) {
            toldLetters = 0;
            if (frame.count < 2 || frame.letters[1] != 'G') {
                return false;
            }
            code = frame.values[1];
            for (int i = 2; i < frame.count; i++) {
                char letter = frame.letters[i];
                if (!mayTell(letter) || tells(letter)) {
                    return false;
                }
                toldLetters |= 1 << (letter - 'A');
                values[letter - 'A'] = frame.values[i];
            }
            return isCodeKnown() && areNumbersRight();
        }

        boolean tells(char letter) {
            return (toldLetters >> (letter - 'A') & 1) == 1;
        }

        int value(char letter) {
            return values[letter - 'A'];
        }

        private boolean mayTell(char letter) {
            switch (code) {
                case MOVE: return letter == 'F' || AXIS_LETTERS.indexOf(letter) >= 0;
                case ORIGIN: return AXIS_LETTERS.indexOf(letter) >= 0;
                case DWELL: return letter == 'P';
                default: return false;
            }
        }

        private boolean isCodeKnown() {
            return code == MOVE || code == DWELL || code == VALUES || code == DIFFERENCES
                || code == ORIGIN;
        }

        private boolean areNumbersRight() {
            if (code == DWELL && !tells('P')) {
                return false;
            }
            return isTold1To('P', MOST_DWELL) && isTold1To('F', MOST_SPEED);
        }

        /** Also true of a letter that is not told. */
        private boolean isTold1To(char letter, int most) {
            return !tells(letter) || (value(letter) >= 1 && value(letter) <= most);
        }
    }

    /** A move or a dwell. */
    private static final class Block {
        private static final int TICKS_AT_ROOT_ONE = 1000;
        /** The highest bit of a root of 1000 * 1000, the greatest top. */
        private static final int HIGHEST_ROOT_BIT = 512;

        private final int[] steps = new int[AXES];
        private int length = 0;
        private int top = 0;
        private int entry = 0;
        private int exit = 0;

        void becomeMove(int[] from, int[] to, int speed) {
            length = 0;
            for (int axis = 0; axis < AXES; axis++) {
                steps[axis] = to[axis] - from[axis];
                length = Math.max(length, Math.abs(steps[axis]));
            }
            top = speed * speed;
        }

        void becomeDwell(int ticks) {
            for (int axis = 0; axis < AXES; axis++) {
                steps[axis] = 0;
            }
            length = ticks;
            top = 0;
        }

        boolean isDwell() {
            return top == 0;
        }

        /** 0 with a dwell, since its steps are all 0. */
        int jointWith(Block next) {
            long common = stepsTimes(next);
            long product = stepsTimes(this) * next.stepsTimes(next);
            if (common <= 0 || product <= 0) {
                return 0;
            }
            return (int) (Math.min(top, next.top) * common * common / product);
        }

        private long stepsTimes(Block other) {
            long sum = 0;
            for (int axis = 0; axis < AXES; axis++) {
                sum += (long) steps[axis] * other.steps[axis];
            }
            return sum;
        }

        /** How far an axis has come after so many leading steps. */
        int stepsAfter(int axis, int leadingSteps) {
            if (length < 1) {
                return 0;
            }
            int size = (2 * Math.abs(steps[axis]) * leadingSteps + length) / (2 * length);
            return steps[axis] < 0 ? -size : size;
        }

        int ticksOfStep(int k, int acceleration) {
            int rising = entry + 2 * acceleration * k;
            int falling = exit + 2 * acceleration * (length - k + 1);
            int root = rootOf(Math.min(top, Math.min(rising, falling)));
            return root < 1 ? TICKS_AT_ROOT_ONE : Math.max(1, TICKS_AT_ROOT_ONE / root);
        }

        private static int rootOf(int square) {
            int root = 0;
            for (int bit = HIGHEST_ROOT_BIT; bit > 0; bit /= 2) {
                int tried = root + bit;
                if (tried * tried <= square) {
                    root = tried;
                }
            }
            return root;
        }
    }

    /** The blocks in their order, their plan, and how far the one at work has come. */
    private static final class Row {
        private static final int MOST = 8;

        private final Block[] blocks = new Block[MOST];
        private final int acceleration;
        private int first = 0;
        private int count = 0;
        private boolean atWork = false;
        private int stepsMade = 0;
        private int ticksToEvent = 0;

        Row(int acceleration) {
            this.acceleration = acceleration;
            for (int i = 0; i < MOST; i++) {
                blocks[i] = new Block();
            }
        }

        Block get(int i) {
            return blocks[Math.floorMod(first + i, MOST)];
        }

        boolean isFull() {
            return count >= MOST;
        }

        void addMove(int[] from, int[] to, int speed) {
            get(count).becomeMove(from, to, speed);
            count++;
            replan();
        }

        void addDwell(int ticks) {
            get(count).becomeDwell(ticks);
            count++;
            replan();
        }

        int clear() {
            int had = count;
            count = 0;
            atWork = false;
            return had;
        }

        void dropFirst() {
            first = Math.floorMod(first + 1, MOST);
            count = Math.max(0, count - 1);
            atWork = false;
        }

        int exitOf(int i) {
            if (atWork && i == 0) {
                return get(0).exit;
            }
            return i + 1 < count ? get(i + 1).entry : 0;
        }

        /**
         * The first entry is settled; going up, the others are bound by what is before them, and
         * then, going down, by what is behind them, which takes nothing back of the former.
         */
        void replan() {
            int settled = atWork ? 1 : 0;
            if (count <= settled) {
                return;
            }
            get(settled).entry = atWork ? get(0).exit : 0;
            for (int i = settled + 1; i < count; i++) {
                Block before = get(i - 1);
                Block block = get(i);
                int most = Math.min(block.top, before.jointWith(block));
                block.entry = Math.min(most, before.entry + changeAlong(before));
            }
            int behind = 0;
            for (int i = count - 1; i > settled; i--) {
                Block block = get(i);
                block.entry = Math.min(block.entry, behind + changeAlong(block));
                behind = block.entry;
            }
        }

        private int changeAlong(Block block) {
            return 2 * acceleration * block.length;
        }

        /** The first block, if there is one, begins to be at work. */
        void begin() {
            if (count == 0) {
                return;
            }
            Block block = get(0);
            block.exit = exitOf(0);
            atWork = true;
            stepsMade = 0;
            ticksToEvent = block.isDwell() ? block.length : block.ticksOfStep(1, acceleration);
        }

        /** Whether the tick is the last one of a step or of a dwell. */
        boolean countTick() {
            ticksToEvent--;
            return ticksToEvent <= 0;
        }

        /** Counts ticks in advance, but not the next one with which something is done. */
        int skipTicks(int most) {
            int skipped = Math.max(0, Math.min(most, ticksToEvent - 1));
            ticksToEvent -= skipped;
            return skipped;
        }

        void countStep() {
            stepsMade++;
            if (stepsMade < get(0).length) {
                ticksToEvent = get(0).ticksOfStep(stepsMade + 1, acceleration);
            }
        }

        /** Asked behind the last tick of a step or of a dwell. */
        boolean isWorkDone() {
            Block block = get(0);
            return block.isDwell() || stepsMade >= block.length;
        }
    }

    /** What outlasts a cut of power. */
    private static final class Slots {
        static final int SLOTS = 2;
        static final int NUMBERS = 4;
        static final int WORDS = 5;
        /** The number of a slot that tells which block it was written for, 0 while it is not whole. */
        static final int MARK = 3;

        private final int[] numbers = new int[SLOTS * NUMBERS];
        private int blocksEnded = 0;

        int number(int slot, int k) {
            return numbers[slot * NUMBERS + k];
        }

        void keep(int[] place, int words) {
            blocksEnded++;
            int base = Math.floorMod(blocksEnded, SLOTS) * NUMBERS;
            if (words > 0) {
                numbers[base + MARK] = 0;
            }
            for (int axis = 0; axis < AXES; axis++) {
                if (words > axis + 1) {
                    numbers[base + axis] = place[axis];
                }
            }
            if (words >= WORDS) {
                numbers[base + MARK] = blocksEnded;
            }
        }

        int newest() {
            return number(1, MARK) > number(0, MARK) ? 1 : 0;
        }

        void countOn() {
            blocksEnded = number(newest(), MARK);
        }
    }
}
