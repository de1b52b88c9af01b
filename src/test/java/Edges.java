import java.lang.reflect.InvocationTargetException;
import java.lang.reflect.Method;
import java.lang.reflect.Modifier;
import java.util.ArrayList;
import java.util.Comparator;
import java.util.List;

/**
 * What the tests of boundary cases share. Each such test is a method promiseNN_name: what it prints
 * bears that name, so a wrong answer tells the promise that is broken.
 */
final class Edges {
    static final int MIN = Integer.MIN_VALUE;
    static final int MAX = Integer.MAX_VALUE;
    static final int NONE = FlowMeters.NONE;
    /** Other numbers than 0 and 1, for fractions. */
    static final int[] WRONG_PARTS = outside(0, 1);

    private static Due due = new Due("Edges");
    private static String test = "";

    /** The calls that make a new object ready for a test. */
    interface Recipe {
        void on(FlowMeters x);
    }

    /** One call; a boolean counts 1 or 0. */
    interface Call {
        long on(FlowMeters x);
    }

    private Edges() {
    }

    /** Runs all tests of the class; each promise from the first to the last must have one. */
    static void runAll(Class<?> tests, int first, int last) {
        due = new Due(tests.getSimpleName());
        List<Method> methods = new ArrayList<>();
        for (Method m : tests.getDeclaredMethods()) {
            if (m.getName().matches("promise\\d\\d_\\w+") && Modifier.isStatic(m.getModifiers())) {
                methods.add(m);
            }
        }
        methods.sort(Comparator.comparing(Method::getName));
        int[] count = new int[last + 1];
        for (Method m : methods) {
            int promise = Integer.parseInt(m.getName().substring(7, 9));
            if (promise >= first && promise <= last) {
                count[promise]++;
            }
            run(m);
        }
        test = "all";
        for (int promise = first; promise <= last; promise++) {
            is("promise " + promise + " has tests", count[promise] > 0 ? 1 : 0, 1);
        }
        due.end();
    }

    private static void run(Method m) {
        test = m.getName();
        try {
            m.invoke(null);
        } catch (InvocationTargetException e) {
            is("a call threw " + e.getCause(), 1, 0);
        } catch (IllegalAccessException e) {
            throw new IllegalStateException(e);
        }
    }

    static void is(String call, long got, long want) {
        due.is(test + ": " + call, got, want);
    }

    static void yes(String call, boolean got) {
        is(call, num(got), 1);
    }

    static void no(String call, boolean got) {
        is(call, num(got), 0);
    }

    static int num(boolean b) {
        return b ? 1 : 0;
    }

    /** Numbers that are not low .. high: next to it, far off, and such as a narrower type would alias. */
    static int[] outside(int low, int high) {
        List<Integer> all = new ArrayList<>();
        int[] steps = {1, 2, 3, 10, 16, 32, 64, 128, 256, 65536, 1 << 30};
        for (int step : steps) {
            all.add(low - step);
            all.add(high + step);
            all.add(low + step);
            all.add(high - step);
        }
        all.add(MIN);
        all.add(MIN + 1);
        all.add(MAX);
        all.add(MAX - 1);
        all.removeIf(n -> n >= low && n <= high);
        return all.stream().mapToInt(n -> n).distinct().toArray();
    }

    static FlowMeters made(Recipe recipe) {
        FlowMeters x = new FlowMeters();
        recipe.on(x);
        return x;
    }

    /** Works of so many knots; flows as pairs of knots: 1, 2 is from knot 1 to knot 2. */
    static FlowMeters make(int knots, int... ends) {
        FlowMeters x = new FlowMeters();
        yes("works(" + knots + ")", x.works(knots));
        for (int i = 0; i < ends.length; i += 2) {
            is("flow(" + ends[i] + ", " + ends[i + 1] + ")", x.flow(ends[i], ends[i + 1]), i / 2);
        }
        return x;
    }

    static void readAll(FlowMeters x, int... readings) {
        for (int f = 0; f < readings.length; f++) {
            yes("read(" + f + ", " + readings[f] + ")", x.read(f, readings[f]));
        }
    }

    /** Flows 0 to 1, 1 to 2, 2 to 0 that tell 10, 13, 10. */
    static FlowMeters triangle() {
        FlowMeters x = make(3, 0, 1, 1, 2, 2, 0);
        readAll(x, 10, 13, 10);
        return x;
    }

    /** A new object as it is. */
    static void fresh(FlowMeters x) {
        is("fresh: knots", x.look(0), 2);
    }

    /** Three knots and four flows of all sorts; more calls than are kept. */
    static void busy(FlowMeters x) {
        x.works(3);
        x.flow(0, 1);
        x.flow(1, 2);
        x.flow(2, 0);
        x.flow(0, 1);
        x.price(3, 7);
        x.miss(1, 2);
        x.sheet(0, 0, 16, 0x01020304, 0x05060708, 0x090A0B0C, 0x7FFF8180);
        x.sheet(1, 3, 3, 0x11802233, 0x44444444, 0, 0);
        x.read(0, 10);
        x.read(1, 13);
        x.read(2, 9);
        x.sheet(2, 2, 0, -1, -1, -1, -1);
    }

    /** Six knots and ten flows, eight of them read. */
    static void full(FlowMeters x) {
        x.works(6);
        for (int f = 0; f < 10; f++) {
            x.flow(f % 6, (f + 1 + f / 6) % 6);
        }
        for (int f = 0; f < 8; f++) {
            x.read(f, 200 * f - 700);
        }
        x.miss(9, 4);
        x.sheet(9, 1, 2, 0x05060000, 0, 0, 0);
    }

    /**
     * The call must answer so, and do nothing: an object that had it is beside one that had not, in
     * all that they answer, in what undo() brings back, and in what the hours read.
     */
    static void refused(String call, long want, Recipe recipe, Call refused) {
        for (int side = 0; side < 3; side++) {
            FlowMeters without = made(recipe);
            FlowMeters with = made(recipe);
            is(call, refused.on(with), want);
            same("nothing is done by " + call, told(with, side), told(without, side));
        }
    }

    /** The call and then undo() must leave all as it was, the calls kept before it at least but one. */
    static void takenBack(String call, Recipe recipe, Call done) {
        for (int side = 0; side < 3; side += 2) {
            FlowMeters without = made(recipe);
            FlowMeters with = made(recipe);
            done.on(with);
            yes("undo() of " + call, with.undo());
            same("taken back: " + call, told(with, side), told(without, side));
        }
    }

    static void same(String what, List<String> got, List<String> want) {
        is(what + ": how many answers", got.size(), want.size());
        for (int i = 0; i < Math.min(got.size(), want.size()); i++) {
            if (!got.get(i).equals(want.get(i))) {
                is(what + ": " + got.get(i) + " instead of " + want.get(i), 1, 0);
            }
        }
    }

    static List<String> told(FlowMeters x, int side) {
        return side == 0 ? answers(x) : side == 1 ? undone(x) : hours(x);
    }

    /** All that the object answers of itself, for works of up to ten flows within its 512 calls. */
    static List<String> answers(FlowMeters x) {
        List<String> told = new ArrayList<>();
        for (int what = 0; what < 7; what++) {
            told.add("look(" + what + ") " + x.look(what));
        }
        for (int k = 0; k < x.look(0); k++) {
            told.add("heap(" + k + ") " + x.heap(k));
            told.add("force(" + k + ") " + x.force(k, 0) + "/" + x.force(k, 1));
        }
        told.add("test() " + x.test(0) + "/" + x.test(1));
        told.add("least() " + x.least(false, 0) + " " + x.least(false, 1));
        told.add("least(surely) " + x.least(true, 0) + " " + x.least(true, 1));
        int flows = x.look(1);
        for (int f = 0; f < flows; f++) {
            for (int what = 0; what < 8; what++) {
                told.add("of(" + f + ", " + what + ") " + x.of(f, what));
            }
            told.add("seen(" + f + ") " + x.seen(f));
            told.add("spare(" + f + ") " + x.spare(f));
            told.add("value(" + f + ") " + x.value(f, 0) + "/" + x.value(f, 1));
            told.add("change(" + f + ") " + x.change(f, 0) + "/" + x.change(f, 1));
            told.add("fall(" + f + ") " + x.fall(f, 0) + "/" + x.fall(f, 1));
            told.add("lie(" + f + ") " + x.lie(f, 0) + "/" + x.lie(f, 1));
            told.add("rank(" + f + ") " + x.rank(f));
            told.add("round(" + f + ") " + x.round(f, 0) + " " + x.round(f, 1) + " " + x.round(f, 2));
            for (int e = 0; e < f; e++) {
                told.add("alike(" + e + ", " + f + ") " + x.alike(e, f));
            }
        }
        return told;
    }

    /** What undo() brings back, until there is none. */
    static List<String> undone(FlowMeters x) {
        List<String> told = new ArrayList<>();
        boolean more = true;
        for (int back = 0; more && back < 8; back++) {
            told.add(back + " back: look " + x.look(0) + " " + x.look(1) + " " + x.look(2));
            int flows = x.look(1);
            for (int f = 0; f < flows; f++) {
                told.add(back + " back: flow " + f + " is " + x.of(f, 0) + " " + x.of(f, 3) + " "
                        + x.of(f, 4) + " " + x.of(f, 5) + " " + x.of(f, 6));
            }
            more = x.undo();
            told.add("undo() " + more);
        }
        return told;
    }

    /** What the hours read. */
    static List<String> hours(FlowMeters x) {
        List<String> told = new ArrayList<>();
        int flows = x.look(1);
        for (int h = 0; h < 16; h++) {
            told.add("hour(" + h + ") " + x.hour(h));
            for (int f = 0; f < flows; f++) {
                told.add("at " + h + " flow " + f + " is " + x.of(f, 2) + " " + x.of(f, 3));
            }
        }
        return told;
    }

    static void ofIs(FlowMeters x, int f, int... want) {
        for (int what = 0; what < want.length; what++) {
            is("of(" + f + ", " + what + ")", x.of(f, what), want[what]);
        }
    }

    static void valueIs(FlowMeters x, int f, long above, long below) {
        is("value(" + f + ", 0)", x.value(f, 0), above);
        is("value(" + f + ", 1)", x.value(f, 1), below);
    }

    static void changeIs(FlowMeters x, int f, long above, long below) {
        is("change(" + f + ", 0)", x.change(f, 0), above);
        is("change(" + f + ", 1)", x.change(f, 1), below);
    }

    static void forceIs(FlowMeters x, int k, long above, long below) {
        is("force(" + k + ", 0)", x.force(k, 0), above);
        is("force(" + k + ", 1)", x.force(k, 1), below);
    }

    static void testIs(FlowMeters x, long above, long below) {
        is("test(0)", x.test(0), above);
        is("test(1)", x.test(1), below);
    }

    static void fallIs(FlowMeters x, int f, long above, long below) {
        is("fall(" + f + ", 0)", x.fall(f, 0), above);
        is("fall(" + f + ", 1)", x.fall(f, 1), below);
    }

    static void lieIs(FlowMeters x, int f, long above, long below) {
        is("lie(" + f + ", 0)", x.lie(f, 0), above);
        is("lie(" + f + ", 1)", x.lie(f, 1), below);
    }

    /** The whole round: behind its last flow there is none. */
    static void roundIs(FlowMeters x, int f, int... want) {
        for (int i = 0; i < want.length; i++) {
            is("round(" + f + ", " + i + ")", x.round(f, i), want[i]);
        }
        is("round(" + f + ", " + want.length + ")", x.round(f, want.length), NONE);
    }

    /** The whole rank: behind its last flow there is none. */
    static void rankIs(FlowMeters x, int... want) {
        for (int i = 0; i < want.length; i++) {
            is("rank(" + i + ")", x.rank(i), want[i]);
        }
        is("rank(" + want.length + ")", x.rank(want.length), NONE);
    }

    static void leastIs(FlowMeters x, boolean surely, int price, int set) {
        is("least(" + surely + ", 0)", x.least(surely, 0), price);
        is("least(" + surely + ", 1)", x.least(surely, 1), set);
    }
}
