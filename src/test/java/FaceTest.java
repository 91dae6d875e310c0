import java.lang.reflect.Constructor;
import java.lang.reflect.Field;
import java.lang.reflect.Method;
import java.lang.reflect.Modifier;
import java.util.Arrays;
import java.util.Set;
import java.util.TreeSet;

/** The public face, and promise 1: a new object. */
public final class FaceTest {
    private static final String[] METHODS = {
        "boolean busy()", "boolean hold(boolean)", "boolean write(long)", "int commanded(int)",
        "int left()", "int place(int)", "int plan(int,int)", "int receive()", "int resume()",
        "int run(int)", "int slot(int,int)", "int stop()", "int tick()", "int wanted()",
        "int wipe()", "void cut(int)", "void home()", "void power()",
    };

    public static void main(String[] args) {
        faceIsTheDocuments();
        newObjectIsAtRest();
        accelerationIsTakenFrom1To1000();
        objectsAreApart();
        Bench.end();
    }

    private static void faceIsTheDocuments() {
        Set<String> open = new TreeSet<>();
        for (Method m : LayerFeeder.class.getDeclaredMethods()) {
            String types = Arrays.toString(m.getParameterTypes()).replaceAll("[\\[\\] ]", "");
            if (Modifier.isPublic(m.getModifiers())) {
                open.add(m.getReturnType() + " " + m.getName() + "(" + types + ")");
            } else if (!Modifier.isPrivate(m.getModifiers())) {
                Bench.note("neither public nor private: " + m);
            }
        }
        if (!open.equals(new TreeSet<>(Arrays.asList(METHODS)))) {
            Bench.note("the public methods are " + open);
        }
        for (Field f : LayerFeeder.class.getDeclaredFields()) {
            boolean named = Arrays.asList("REPEAT", "FULL", "WRONG").contains(f.getName());
            Bench.due("public " + f.getName(), Modifier.isPublic(f.getModifiers()), named);
            Bench.due("private " + f.getName(), Modifier.isPrivate(f.getModifiers()), !named);
        }
        Constructor<?>[] constructors = LayerFeeder.class.getDeclaredConstructors();
        Bench.due("constructors", constructors.length, 1);
        Bench.due("final", Modifier.isFinal(LayerFeeder.class.getModifiers()), true);
        Bench.due("REPEAT", LayerFeeder.REPEAT, -1);
        Bench.due("FULL", LayerFeeder.FULL, -2);
        Bench.due("WRONG", LayerFeeder.WRONG, -3);
    }

    private static void newObjectIsAtRest() {
        LayerFeeder feeder = new LayerFeeder(100);
        Bench.due("wipe()", feeder.wipe(), 0);
        Bench.due("wanted()", feeder.wanted(), 0);
        Bench.due("left()", feeder.left(), 0);
        Bench.due("busy()", feeder.busy(), false);
        Bench.duePlace("new", feeder, 0, 0, 0);
        Bench.dueCommanded("new", feeder, 0, 0, 0);
        Bench.dueSlot("new", feeder, 0, 0, 0, 0, 0);
        Bench.dueSlot("new", feeder, 1, 0, 0, 0, 0);
        Bench.dueThrow("power() when new", IllegalStateException.class, feeder::power);
        Bench.dueThrow("home() when new", IllegalStateException.class, feeder::home);
        Bench.due("tick()", feeder.tick(), 0);
        Bench.due("hold(false)", feeder.hold(false), false);
        Bench.due("stop()", feeder.stop(), 0);
        Bench.order(feeder, "G1 X7");
        Bench.due("the speed at first, squared", feeder.plan(0, 3), 10000);
        Bench.dueCommanded("values at first", feeder, 7, 0, 0);
        Bench.order(feeder, "G1 X5");
        Bench.dueCommanded("values at first", feeder, 5, 0, 0);
    }

    private static void accelerationIsTakenFrom1To1000() {
        int[][] givenAndUsed = {
            {1, 1}, {2, 2}, {999, 999}, {1000, 1000}, {0, 100}, {-1, 100}, {1001, 100},
            {Integer.MIN_VALUE, 100}, {Integer.MAX_VALUE, 100},
        };
        for (int[] pair : givenAndUsed) {
            LayerFeeder feeder = new LayerFeeder(pair[0]);
            Bench.order(feeder, "G1 X3 F1000");
            Bench.order(feeder, "G1 X6");
            Bench.dueEntries("acceleration " + pair[0], feeder, 0, 2 * pair[1] * 3);
        }
    }

    private static void objectsAreApart() {
        LayerFeeder one = new LayerFeeder(100);
        LayerFeeder other = new LayerFeeder(100);
        Bench.order(one, "G1 X7 F1000");
        one.run(20000);
        Bench.duePlace("the other one", other, 0, 0, 0);
        Bench.due("wanted() of the other one", other.wanted(), 0);
        Bench.dueSlot("the other one", other, 1, 0, 0, 0, 0);
    }
}
