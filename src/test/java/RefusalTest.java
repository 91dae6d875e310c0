import java.util.ArrayList;
import java.util.List;
import java.util.NoSuchElementException;

/** Which calls are refused in which state, which exception is thrown, and that nothing changes. */
public final class RefusalTest {
    private static final Class<?> NONE = null;
    private static final Class<?> STATE = IllegalStateException.class;
    private static final Class<?> ARGUMENT = IllegalArgumentException.class;
    private static final Class<?> INDEX = IndexOutOfBoundsException.class;
    private static final Class<?> ELEMENT = NoSuchElementException.class;

    private interface Body {
        Object make(LayerFeeder feeder);
    }

    private interface Maker {
        LayerFeeder make();
    }

    /** A call, and what it throws when the feeder works, when it is off, and when it is lost. */
    private static final class Call {
        final String name;
        final Body body;
        final Class<?>[] thrown;

        Call(String name, Body body, Class<?>... thrown) {
            this.name = name;
            this.body = body;
            this.thrown = thrown;
        }
    }

    /** A way into a state: 0 working, 1 off, 2 lost. */
    private static final class Way {
        final String name;
        final int state;
        final Maker maker;
        final boolean slotsAre0;

        Way(String name, int state, boolean slotsAre0, Maker maker) {
            this.name = name;
            this.state = state;
            this.slotsAre0 = slotsAre0;
            this.maker = maker;
        }
    }

    private final List<Call> calls = new ArrayList<>();
    private final List<Way> ways = new ArrayList<>();

    private RefusalTest() {
        addCallsThatTellOfStates();
        addCallsWithWrongArguments();
        addCallsThatAreNeverRefused();
        addWays();
    }

    public static void main(String[] args) {
        RefusalTest test = new RefusalTest();
        test.callsAreRefusedByTheirStates();
        test.refusedCallsChangeNothing();
        Bench.end();
    }

    private void call(String name, Body body, Class<?>... thrown) {
        calls.add(new Call(name, body, thrown));
    }

    private void addCallsThatTellOfStates() {
        call("receive()", f -> f.receive(), NONE, STATE, STATE);
        call("tick()", f -> f.tick(), NONE, STATE, STATE);
        call("run(1)", f -> f.run(1), NONE, STATE, STATE);
        call("run(20000)", f -> f.run(20000), NONE, STATE, STATE);
        call("stop()", f -> f.stop(), NONE, STATE, STATE);
        call("hold(true)", f -> f.hold(true), NONE, STATE, NONE);
        call("hold(false)", f -> f.hold(false), NONE, STATE, NONE);
        call("cut(-1)", f -> cut(f, -1), NONE, STATE, STATE);
        call("cut(0)", f -> cut(f, 0), NONE, STATE, STATE);
        call("cut(5)", f -> cut(f, 5), NONE, STATE, STATE);
        call("power()", f -> power(f), STATE, NONE, STATE);
        call("home()", f -> home(f), STATE, STATE, NONE);
        call("resume()", f -> f.resume(), STATE, STATE, NONE);
    }

    /** Illegal argument is named before illegal state, and before index out of bounds. */
    private void addCallsWithWrongArguments() {
        for (int n : new int[] {Integer.MIN_VALUE, -1, 0, 20001, Integer.MAX_VALUE}) {
            call("run(" + n + ")", f -> f.run(n), ARGUMENT, ARGUMENT, ARGUMENT);
        }
        for (int w : new int[] {Integer.MIN_VALUE, -2, 6, Integer.MAX_VALUE}) {
            call("cut(" + w + ")", f -> cut(f, w), ARGUMENT, ARGUMENT, ARGUMENT);
        }
        for (int a : new int[] {Integer.MIN_VALUE, -1, 3, Integer.MAX_VALUE}) {
            call("place(" + a + ")", f -> f.place(a), ARGUMENT, ARGUMENT, ARGUMENT);
            call("commanded(" + a + ")", f -> f.commanded(a), ARGUMENT, ARGUMENT, ARGUMENT);
            int what = a < 0 ? a : a == 3 ? 4 : a;
            call("plan(0, " + what + ")", f -> f.plan(0, what), ARGUMENT, ARGUMENT, ARGUMENT);
            call("plan(-1, " + what + ")", f -> f.plan(-1, what), ARGUMENT, ARGUMENT, ARGUMENT);
            call("plan(8, " + what + ")", f -> f.plan(8, what), ARGUMENT, ARGUMENT, ARGUMENT);
        }
        for (int i : new int[] {Integer.MIN_VALUE, -1, 8, Integer.MAX_VALUE}) {
            call("plan(" + i + ", 0)", f -> f.plan(i, 0), INDEX, INDEX, INDEX);
            call("plan(" + i + ", 3)", f -> f.plan(i, 3), INDEX, INDEX, INDEX);
            call("slot(" + i + ", 0)", f -> f.slot(i, 0), INDEX, INDEX, INDEX);
            call("slot(1, " + i + ")", f -> f.slot(1, i), INDEX, INDEX, INDEX);
        }
        call("slot(2, 3)", f -> f.slot(2, 3), INDEX, INDEX, INDEX);
        call("slot(1, 4)", f -> f.slot(1, 4), INDEX, INDEX, INDEX);
    }

    private void addCallsThatAreNeverRefused() {
        call("write(N)", f -> f.write('N'), NONE, NONE, NONE);
        call("write(127)", f -> f.write(127), NONE, NONE, NONE);
        call("wipe()", f -> f.wipe(), NONE, NONE, NONE);
        call("wanted()", f -> f.wanted(), NONE, NONE, NONE);
        call("left()", f -> f.left(), NONE, NONE, NONE);
        call("busy()", f -> f.busy(), NONE, NONE, NONE);
        for (int a = 0; a <= 2; a++) {
            int axis = a;
            call("place(" + a + ")", f -> f.place(axis), NONE, NONE, NONE);
            call("commanded(" + a + ")", f -> f.commanded(axis), NONE, NONE, NONE);
        }
        call("slot(0, 0)", f -> f.slot(0, 0), NONE, NONE, NONE);
        call("slot(1, 3)", f -> f.slot(1, 3), NONE, NONE, NONE);
    }

    private static Object cut(LayerFeeder feeder, int words) {
        feeder.cut(words);
        return "done";
    }

    private static Object power(LayerFeeder feeder) {
        feeder.power();
        return "done";
    }

    private static Object home(LayerFeeder feeder) {
        feeder.home();
        return "done";
    }

    private void addWays() {
        ways.add(new Way("new", 0, true, () -> new LayerFeeder(1000)));
        ways.add(new Way("unusual", 0, true, () -> unusual()));
        ways.add(new Way("at work", 0, true, () -> atWork(unusual())));
        ways.add(new Way("at work, a cut set", 0, true, () -> cutSet(atWork(unusual()))));
        ways.add(new Way("held", 0, true, () -> held(unusual())));
        ways.add(new Way("held at work", 0, true, () -> held(atWork(unusual()))));
        ways.add(new Way("off", 1, false, () -> off(5)));
        ways.add(new Way("off, slots 0", 1, true, () -> off(3)));
        ways.add(new Way("lost", 2, false, () -> lost(5)));
        ways.add(new Way("lost and held", 2, false, () -> held(lost(5))));
        ways.add(new Way("lost, slots 0", 2, true, () -> lost(0)));
        ways.add(new Way("home", 0, false, () -> atHome()));
        ways.add(new Way("resumed", 0, false, () -> resumed()));
    }

    /** All that can be told is told otherwise than at first, and a text is begun. */
    private static LayerFeeder unusual() {
        LayerFeeder feeder = Bench.feederWith(1000, "G1 X50 Y40 E-30 F500", "G92 X7 Y8 E9",
            "G91", "G1 X5 Y6 E7", "G4 P3", "G1 X1 F300");
        Bench.write(feeder, "N6 G1 X");
        return feeder;
    }

    private static LayerFeeder atWork(LayerFeeder feeder) {
        feeder.run(100);
        return feeder;
    }

    private static LayerFeeder held(LayerFeeder feeder) {
        feeder.hold(true);
        return feeder;
    }

    private static LayerFeeder cutSet(LayerFeeder feeder) {
        feeder.cut(2);
        return feeder;
    }

    private static LayerFeeder off(int words) {
        LayerFeeder feeder = unusual();
        feeder.cut(words);
        feeder.run(20000);
        Bench.write(feeder, "N0 G");
        return feeder;
    }

    private static LayerFeeder lost(int words) {
        LayerFeeder feeder = off(words);
        feeder.power();
        return feeder;
    }

    private static LayerFeeder atHome() {
        LayerFeeder feeder = lost(5);
        feeder.home();
        return feeder;
    }

    private static LayerFeeder resumed() {
        LayerFeeder feeder = lost(5);
        feeder.resume();
        return feeder;
    }

    private static String answerOf(Body body, LayerFeeder feeder) {
        try {
            return "" + body.make(feeder);
        } catch (RuntimeException e) {
            return e.getClass().getName();
        }
    }

    private static Class<?> dueOf(Call call, Way way) {
        boolean noSlot = call.name.equals("resume()") && way.state == 2 && way.slotsAre0;
        return noSlot ? ELEMENT : call.thrown[way.state];
    }

    private void callsAreRefusedByTheirStates() {
        Bench.sentence("In all calls that say so, illegal state; of several exceptions the one named"
            + " first is thrown");
        for (Way way : ways) {
            for (Call call : calls) {
                String got = answerOf(call.body, way.maker.make());
                Class<?> due = dueOf(call, way);
                boolean right = due == NONE ? !got.contains("Exception") : got.equals(due.getName());
                if (!right) {
                    Bench.note(way.name + ": " + call.name + ": " + got + ", due is " + due);
                }
            }
        }
    }

    private void refusedCallsChangeNothing() {
        Bench.sentence("a call that throws changes nothing");
        for (Way way : ways) {
            List<String> untouched = storyOf(way.maker.make());
            for (Call call : calls) {
                if (dueOf(call, way) != NONE) {
                    LayerFeeder feeder = way.maker.make();
                    answerOf(call.body, feeder);
                    compare(way.name + ", " + call.name, storyOf(feeder), untouched);
                }
            }
        }
    }

    private static void compare(String when, List<String> got, List<String> want) {
        for (int i = 0; i < want.size(); i++) {
            if (!got.get(i).equals(want.get(i))) {
                Bench.note(when + ": then " + got.get(i) + ", due is " + want.get(i));
                return;
            }
        }
    }

    /** What a feeder answers to calls that bring to light all that it has in mind. */
    private static List<String> storyOf(LayerFeeder feeder) {
        List<String> story = new ArrayList<>();
        look(story, feeder);
        tell(story, "write(1)", f -> f.write('1'), feeder);
        tell(story, "wipe()", f -> f.wipe(), feeder);
        tell(story, "run(3)", f -> f.run(3), feeder);
        tell(story, "power()", f -> power(f), feeder);
        look(story, feeder);
        tell(story, "hold(true)", f -> f.hold(true), feeder);
        tell(story, "hold(false)", f -> f.hold(false), feeder);
        tell(story, "resume()", f -> f.resume(), feeder);
        tell(story, "home()", f -> home(f), feeder);
        for (int i = 0; i < 3; i++) {
            tell(story, "a move", f -> Bench.send(f, "N" + f.wanted() + " G1 X9 Y10 E11"), feeder);
            tell(story, "run(60)", f -> f.run(60), feeder);
            look(story, feeder);
        }
        tell(story, "run(20000)", f -> f.run(20000), feeder);
        look(story, feeder);
        tell(story, "power()", f -> power(f), feeder);
        return story;
    }

    private static void tell(List<String> story, String name, Body body, LayerFeeder feeder) {
        story.add(name + " answers " + answerOf(body, feeder));
    }

    private static void look(List<String> story, LayerFeeder feeder) {
        tell(story, "wanted()", f -> f.wanted(), feeder);
        tell(story, "left()", f -> f.left(), feeder);
        tell(story, "busy()", f -> f.busy(), feeder);
        for (int a = 0; a <= 2; a++) {
            int axis = a;
            tell(story, "place(" + a + ")", f -> f.place(axis), feeder);
            tell(story, "commanded(" + a + ")", f -> f.commanded(axis), feeder);
        }
        for (int n = 0; n < 8; n++) {
            int slot = n / 4;
            int k = n % 4;
            tell(story, "slot(" + slot + ", " + k + ")", f -> f.slot(slot, k), feeder);
        }
        for (int n = 0; n < 4 * feeder.left(); n++) {
            int i = n / 4;
            int what = n % 4;
            tell(story, "plan(" + i + ", " + what + ")", f -> f.plan(i, what), feeder);
        }
    }
}
