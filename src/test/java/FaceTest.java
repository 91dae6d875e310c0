import java.lang.reflect.Constructor;
import java.lang.reflect.Field;
import java.lang.reflect.Method;
import java.lang.reflect.Modifier;
import java.util.Arrays;
import java.util.Set;
import java.util.TreeSet;

/** The public face, and promise 1: a new object. */
public final class FaceTest {
    private static final String[] METHODS = {
        "boolean busy()", "boolean hold(boolean)", "boolean write(long)", "int commanded(int)",
        "int left()", "int place(int)", "int plan(int,int)", "int receive()", "int resume()",
        "int run(int)", "int slot(int,int)", "int stop()", "int tick()", "int wanted()",
        "int wipe()", "void cut(int)", "void home()", "void power()",
    };

    public static void main(String[] args) {
        faceIsTheDocuments();
        accelerationIsTakenFrom1To1000();
        newObjectIsAtRest();
        newObjectIsNeitherLostNorHeld();
        newObjectReadsValuesAtSpeed100();
        objectsAreApart();
        Bench.end();
    }

    private static void faceIsTheDocuments() {
        Bench.sentence("The public face");
        Set<String> open = new TreeSet<>();
        for (Method m : LayerFeeder.class.getDeclaredMethods()) {
            String types = Arrays.toString(m.getParameterTypes()).replaceAll("[\\[\\] ]", "");
            if (Modifier.isPublic(m.getModifiers())) {
                open.add(m.getReturnType() + " " + m.getName() + "(" + types + ")");
            } else if (!Modifier.isPrivate(m.getModifiers())) {
                Bench.note("neither public nor private: " + m);
            }
        }
        if (!open.equals(new TreeSet<>(Arrays.asList(METHODS)))) {
            Bench.note("the public methods are " + open);
        }
        for (Field f : LayerFeeder.class.getDeclaredFields()) {
            boolean named = Arrays.asList("REPEAT", "FULL", "WRONG").contains(f.getName());
            Bench.due("public " + f.getName(), Modifier.isPublic(f.getModifiers()), named);
            Bench.due("private " + f.getName(), Modifier.isPrivate(f.getModifiers()), !named);
        }
        Constructor<?>[] constructors = LayerFeeder.class.getDeclaredConstructors();
        Bench.due("constructors", constructors.length, 1);
        Bench.due("final", Modifier.isFinal(LayerFeeder.class.getModifiers()), true);
        Bench.due("REPEAT", LayerFeeder.REPEAT, -1);
        Bench.due("FULL", LayerFeeder.FULL, -2);
        Bench.due("WRONG", LayerFeeder.WRONG, -3);
    }

    private static void accelerationIsTakenFrom1To1000() {
        Bench.sentence("Power is on, with an acceleration 1 .. 1000 (otherwise 100)");
        int[][] givenAndUsed = {
            {Integer.MIN_VALUE, 100}, {-1000, 100}, {-1, 100}, {0, 100}, {1, 1}, {2, 2}, {99, 99},
            {100, 100}, {101, 101}, {999, 999}, {1000, 1000}, {1001, 100}, {65537, 100},
            {Integer.MAX_VALUE, 100},
        };
        for (int[] pair : givenAndUsed) {
            LayerFeeder feeder = Bench.feederWith(pair[0], "G1 X3 F1000", "G1 X6");
            Bench.dueEntries("acceleration " + pair[0], feeder, 0, 2 * pair[1] * 3);
        }
    }

    private static void newObjectIsAtRest() {
        Bench.sentence("nothing in the row, frame 0 is wanted");
        LayerFeeder feeder = new LayerFeeder(100);
        Bench.due("left()", feeder.left(), 0);
        Bench.due("busy()", feeder.busy(), false);
        Bench.due("stop()", feeder.stop(), 0);
        Bench.due("wanted()", feeder.wanted(), 0);
        Bench.due("wipe()", feeder.wipe(), 0);
        Bench.dueThrow("plan(0, 0)", IndexOutOfBoundsException.class, () -> feeder.plan(0, 0));
        Bench.sentence("The PLACE is a number of steps for each, at first 0");
        Bench.duePlace("new", feeder, 0, 0, 0);
        Bench.dueCommanded("new", feeder, 0, 0, 0);
        Bench.sentence("There are two SLOTS of four numbers, at first all 0");
        Bench.dueSlot("new", feeder, 0, 0, 0, 0, 0);
        Bench.dueSlot("new", feeder, 1, 0, 0, 0, 0);
    }

    private static void newObjectIsNeitherLostNorHeld() {
        Bench.sentence("Power is on; not lost, not held");
        LayerFeeder feeder = new LayerFeeder(100);
        Bench.dueThrow("power()", IllegalStateException.class, feeder::power);
        Bench.dueThrow("home()", IllegalStateException.class, feeder::home);
        Bench.dueThrow("resume()", IllegalStateException.class, feeder::resume);
        Bench.due("tick()", feeder.tick(), 0);
        Bench.order(feeder, "G4 P2");
        feeder.tick();
        Bench.due("busy(): a block begins", feeder.busy(), true);
        Bench.due("hold(false)", feeder.hold(false), false);
        Bench.due("run(2): no cut is set", feeder.run(2), 0);
        Bench.due("tick(): no cut was set", feeder.tick(), 0);
    }

    private static void newObjectReadsValuesAtSpeed100() {
        Bench.sentence("values from now on (as at first); the SPEED from now on (at first 100)");
        LayerFeeder feeder = Bench.feederWith(100, "G1 X7 Y8 E9", "G1 X5 Y5 E5");
        Bench.dueCommanded("values that are steps", feeder, 5, 5, 5);
        Bench.due("the top of the first", feeder.plan(0, 3), 100 * 100);
    }

    private static void objectsAreApart() {
        Bench.sentence("An object");
        LayerFeeder one = new LayerFeeder(100);
        LayerFeeder other = new LayerFeeder(100);
        Bench.write(other, "N0");
        Bench.doWhole(one, "G1 X7 F1000");
        Bench.duePlace("the other one", other, 0, 0, 0);
        Bench.due("wanted() of the other one", other.wanted(), 0);
        Bench.dueSlot("the other one", other, 1, 0, 0, 0, 0);
        Bench.due("wipe() of the other one", other.wipe(), 2);
    }
}
