import com.sun.management.ThreadMXBean;
import java.io.IOException;
import java.lang.management.ManagementFactory;
import java.lang.reflect.Constructor;
import java.lang.reflect.Field;
import java.lang.reflect.Method;
import java.lang.reflect.Modifier;
import java.nio.file.Files;
import java.nio.file.Path;
import java.util.Random;
import java.util.Set;
import java.util.TreeSet;
import java.util.regex.Matcher;
import java.util.regex.Pattern;

/** The public face, rules of the language that a program can look at, and calls of any input. */
public final class FaceTest {
    private static final Due DUE = new Due("FaceTest");
    private static final String[] FACE = {
        "boolean works(int)", "int flow(int,int)", "boolean read(int,int)", "boolean unread(int)",
        "boolean miss(int,int)", "boolean price(int,int)", "int sheet(int,int,int,int,int,int,int)",
        "boolean lose(int)", "int hour(int)", "boolean undo()", "int look(int)", "int of(int,int)",
        "int heap(int)", "int seen(int)", "long value(int,int)", "long change(int,int)",
        "long force(int,int)", "long test(int)", "int round(int,int)", "int spare(int)",
        "long fall(int,int)", "long lie(int,int)", "int rank(int)", "boolean alike(int,int)",
        "int least(boolean,int)"};

    private FaceTest() {
    }

    public static void main(String[] args) throws IOException {
        face();
        members();
        source();
        anyInput();
        noObjects();
        DUE.end();
    }

    private static void face() {
        Set<String> methods = new TreeSet<>();
        for (Method m : FlowMeters.class.getDeclaredMethods()) {
            if (Modifier.isPrivate(m.getModifiers())) {
                continue;
            }
            StringBuilder text = new StringBuilder(m.getReturnType() + " " + m.getName() + "(");
            for (int i = 0; i < m.getParameterCount(); i++) {
                text.append(i == 0 ? "" : ",").append(m.getParameterTypes()[i]);
            }
            methods.add(text.append(")").toString());
            DUE.is("public, not static: " + text, m.getModifiers(), Modifier.PUBLIC);
        }
        for (String due : FACE) {
            DUE.is("the face has " + due, methods.remove(due), true);
        }
        DUE.is("methods beyond the face: " + methods, methods.size(), 0);
    }

    private static void members() {
        DUE.is("public final class", FlowMeters.class.getModifiers(), Modifier.PUBLIC | Modifier.FINAL);
        Constructor<?>[] constructors = FlowMeters.class.getDeclaredConstructors();
        DUE.is("constructors", constructors.length, 1);
        DUE.is("its constructor's inputs", constructors[0].getParameterCount(), 0);
        DUE.is("its constructor is public", constructors[0].getModifiers(), Modifier.PUBLIC);
        for (Field f : FlowMeters.class.getDeclaredFields()) {
            int due = f.getName().equals("NONE") ? Modifier.PUBLIC : Modifier.PRIVATE;
            DUE.is("seen from outside: " + f, f.getModifiers() & (Modifier.PUBLIC | Modifier.PRIVATE), due);
            DUE.is("static and not final: " + f,
                    Modifier.isStatic(f.getModifiers()) && !Modifier.isFinal(f.getModifiers()), false);
        }
        Set<String> names = new TreeSet<>();
        for (String line : FACE) {
            names.add(line.substring(line.indexOf(' ') + 1, line.indexOf('(')));
        }
        for (Class<?> inside : FlowMeters.class.getDeclaredClasses()) {
            DUE.is("static: " + inside, Modifier.isStatic(inside.getModifiers()), true);
            DUE.is("public: " + inside, Modifier.isPublic(inside.getModifiers()), false);
            DUE.is("fields of " + inside, inside.getDeclaredFields().length <= 20, true);
            for (Method m : inside.getDeclaredMethods()) {
                DUE.is("bears a public name: " + m, names.contains(m.getName()), false);
            }
        }
        DUE.is("private methods bear no public name",
                FlowMeters.class.getDeclaredMethods().length - FACE.length, privateNames(names));
    }

    private static int privateNames(Set<String> names) {
        int count = 0;
        for (Method m : FlowMeters.class.getDeclaredMethods()) {
            count += Modifier.isPrivate(m.getModifiers()) && !names.contains(m.getName()) ? 1 : 0;
        }
        return count;
    }

    private static void source() throws IOException {
        String text = Files.readString(Path.of("src/main/java/FlowMeters.java"));
        String code = text.replaceAll("(?s)/\\*.*?\\*/", "").replaceAll("//[^\n]*", "");
        String[] out = {"throw", "throws", "try", "catch", "synchronized", "assert", "import", "package",
            "double", "float", "Object", "var", "native", "Thread", "hashCode", "toString", "equals"};
        for (String word : out) {
            DUE.is("the word " + word, Pattern.compile("\\b" + word + "\\b").matcher(code).find(), false);
        }
        DUE.is("a lambda or method reference", code.contains("->") || code.contains("::"), false);
        Matcher library = Pattern.compile("\\b(Math|Integer|Long|System|Arrays)\\.(\\w+)").matcher(code);
        Set<String> allowed = Set.of("Math.abs", "Math.min", "Math.max", "Integer.bitCount", "System.arraycopy");
        while (library.find()) {
            DUE.is("the library's " + library.group(), allowed.contains(library.group()), true);
        }
        int depth = 0;
        int start = 0;
        String[] lines = text.split("\n");
        for (int i = 0; i < lines.length; i++) {
            if (lines[i].matches("( {4}| {8})[\\w\\[\\]. ]+\\(.*\\) \\{")) {
                start = i;
                depth++;
            }
            if (lines[i].matches("( {4}| {8})\\}") && depth > 0) {
                DUE.is("a method of over 60 lines at line " + (start + 1), i - start + 1 > 60, false);
            }
        }
        DUE.is("methods were found", depth > 40, true);
    }

    /** No call may throw: one that does ends this test with a wrong exit code. */
    private static void anyInput() {
        Random chance = new Random(26);
        for (int run = 0; run < 400; run++) {
            FlowMeters x = new FlowMeters();
            x.works(2 + run % 5);
            for (int call = 0; call < 511; call++) {
                anyCall(x, chance, run % 3);
            }
        }
    }

    private static int any(Random chance, int wildness) {
        int[] edges = {-1, 10, 16, 17, 31, 32, 33, 2000, -2000, Integer.MIN_VALUE, Integer.MAX_VALUE};
        return chance.nextInt(3) < wildness
                ? chance.nextBoolean() ? edges[chance.nextInt(edges.length)] : chance.nextInt()
                : chance.nextInt(11);
    }

    private static void anyCall(FlowMeters x, Random chance, int wildness) {
        int a = any(chance, wildness);
        int b = any(chance, wildness);
        int part = chance.nextInt(2 + wildness);
        switch (chance.nextInt(26)) {
            case 0: x.works(chance.nextInt(40) == 0 ? b : -a); break;
            case 1: case 2: x.flow(a, b); break;
            case 3: case 4: x.read(a, b); break;
            case 5: x.unread(a); break;
            case 6: x.miss(a, b); break;
            case 7: x.price(a, b); break;
            case 8: x.sheet(a, b, any(chance, wildness), chance.nextInt(), chance.nextInt(), a, b); break;
            case 9: x.lose(a); break;
            case 10: x.hour(a); break;
            case 11: x.undo(); break;
            case 12: x.look(a); break;
            case 13: x.of(a, b); break;
            case 14: x.heap(a); break;
            case 15: x.seen(a); break;
            case 16: x.value(a, part); break;
            case 17: x.change(a, part); break;
            case 18: x.force(a, part); break;
            case 19: x.test(part); break;
            case 20: x.round(a, b); break;
            case 21: x.spare(a); break;
            case 22: x.fall(a, part); break;
            case 23: x.lie(a, part); break;
            case 24: x.rank(a); x.alike(a, b); break;
            default: x.least(chance.nextBoolean(), part);
        }
    }

    /** All calls of a run live in one room: only the making of an object may fill it. */
    private static void noObjects() {
        if (!(ManagementFactory.getThreadMXBean() instanceof ThreadMXBean bean)) {
            return;
        }
        long self = Thread.currentThread().getId();
        FlowMeters x = new FlowMeters();
        long before = bean.getThreadAllocatedBytes(self);
        for (int call = 0; call < 20000; call++) {
            x.works(6);
            x.flow(call % 6, (call + 1) % 6);
            x.flow(call % 5, 5);
            x.read(0, call % 2000);
            x.sheet(0, 2, 3, call, call, call, call);
            x.hour(call % 16);
            x.undo();
            x.value(0, 0);
            x.fall(0, 0);
            x.lie(0, 1);
            x.rank(0);
            x.round(0, 1);
            x.alike(0, 1);
            x.look(4);
            x.least(true, 0);
        }
        long made = bean.getThreadAllocatedBytes(self) - before;
        DUE.is("300000 calls made " + made + " bytes of objects", made > 100000, false);
    }
}
