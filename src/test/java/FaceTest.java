import com.sun.management.ThreadMXBean;
import java.io.IOException;
import java.lang.management.ManagementFactory;
import java.lang.reflect.Constructor;
import java.lang.reflect.Field;
import java.lang.reflect.Method;
import java.lang.reflect.Modifier;
import java.nio.file.Files;
import java.nio.file.Path;
import java.util.Random;
import java.util.Set;
import java.util.TreeSet;
import java.util.regex.Matcher;
import java.util.regex.Pattern;

/** The public face, rules of the language that a program can look at, and calls of any input. */
public final class FaceTest {
    private static final Due DUE = new Due("FaceTest");
    private static final String[] FACE = {
        "boolean works(int)", "int flow(int,int)", "boolean read(int,int)", "boolean unread(int)",
        "boolean miss(int,int)", "boolean price(int,int)", "int sheet(int,int,int,int,int,int,int)",
        "boolean lose(int)", "int hour(int)", "boolean undo()", "int look(int)", "int of(int,int)",
        "int heap(int)", "int seen(int)", "long value(int,int)", "long change(int,int)",
        "long force(int,int)", "long test(int)", "int round(int,int)", "int spare(int)",
        "long fall(int,int)", "long lie(int,int)", "int rank(int)", "boolean alike(int,int)",
        "int least(boolean,int)"};
    private static final String[] DEAREST = {"sheet", "rank", "fall", "least", "value", "hour"};
    /** 600,000 objects of 16 bytes at the least. */
    private static final long ROOM = 600_000L * 16;

    private FaceTest() {
    }

    public static void main(String[] args) throws IOException {
        face();
        members();
        source();
        anyInput();
        room();
        DUE.end();
    }

    private static void face() {
        Set<String> methods = new TreeSet<>();
        for (Method m : FlowMeters.class.getDeclaredMethods()) {
            if (Modifier.isPrivate(m.getModifiers())) {
                continue;
            }
            StringBuilder text = new StringBuilder(m.getReturnType() + " " + m.getName() + "(");
            for (int i = 0; i < m.getParameterCount(); i++) {
                text.append(i == 0 ? "" : ",").append(m.getParameterTypes()[i]);
            }
            methods.add(text.append(")").toString());
            DUE.is("public, not static: " + text, m.getModifiers(), Modifier.PUBLIC);
        }
        for (String due : FACE) {
            DUE.is("the face has " + due, methods.remove(due), true);
        }
        DUE.is("methods beyond the face: " + methods, methods.size(), 0);
    }

    private static void members() {
        DUE.is("public final class", FlowMeters.class.getModifiers(), Modifier.PUBLIC | Modifier.FINAL);
        Constructor<?>[] constructors = FlowMeters.class.getDeclaredConstructors();
        DUE.is("constructors", constructors.length, 1);
        DUE.is("its constructor's inputs", constructors[0].getParameterCount(), 0);
        DUE.is("its constructor is public", constructors[0].getModifiers(), Modifier.PUBLIC);
        for (Field f : FlowMeters.class.getDeclaredFields()) {
            int due = f.getName().equals("NONE") ? Modifier.PUBLIC : Modifier.PRIVATE;
            DUE.is("seen from outside: " + f, f.getModifiers() & (Modifier.PUBLIC | Modifier.PRIVATE), due);
            DUE.is("static and not final: " + f,
                    Modifier.isStatic(f.getModifiers()) && !Modifier.isFinal(f.getModifiers()), false);
        }
        Set<String> names = new TreeSet<>();
        for (String line : FACE) {
            names.add(line.substring(line.indexOf(' ') + 1, line.indexOf('(')));
        }
        for (Class<?> inside : FlowMeters.class.getDeclaredClasses()) {
            DUE.is("static: " + inside, Modifier.isStatic(inside.getModifiers()), true);
            DUE.is("public: " + inside, Modifier.isPublic(inside.getModifiers()), false);
            DUE.is("fields of " + inside, fieldsOf(inside) <= 22, true);
            for (Method m : inside.getDeclaredMethods()) {
                DUE.is("bears a public name: " + m,
                        Modifier.isPrivate(m.getModifiers()) && names.contains(m.getName()), false);
            }
        }
        DUE.is("private methods bear no public name",
                FlowMeters.class.getDeclaredMethods().length - FACE.length, privateNames(names));
    }

    private static int fieldsOf(Class<?> inside) {
        int count = 0;
        for (Field f : inside.getDeclaredFields()) {
            count += Modifier.isStatic(f.getModifiers()) ? 0 : 1;
        }
        return count;
    }

    private static int privateNames(Set<String> names) {
        int count = 0;
        for (Method m : FlowMeters.class.getDeclaredMethods()) {
            count += Modifier.isPrivate(m.getModifiers()) && !names.contains(m.getName()) ? 1 : 0;
        }
        return count;
    }

    /** Words and names that LANGUAGE.md rules out wherever they stand. */
    private static void source() throws IOException {
        String text = Files.readString(Path.of("src/main/java/FlowMeters.java"));
        String code = withoutRemarks(text);
        String[] out = {"throw", "throws", "try", "catch", "synchronized", "assert", "package", "native",
            "volatile", "Object", "Thread", "Random", "hashCode", "NaN"};
        for (String word : out) {
            DUE.is("the word " + word, Pattern.compile("\\b" + word + "\\b").matcher(code).find(), false);
        }
        DUE.is("a lambda or method reference", code.contains("->") || code.contains("::"), false);
        Matcher imports = Pattern.compile("\\bimport\\s+([\\w.*]+)").matcher(code);
        while (imports.find()) {
            DUE.is("the import of " + imports.group(1),
                    imports.group(1).matches("java\\.util\\.(ArrayList|List|Arrays|Iterator|\\*)"), true);
        }
        Matcher library = Pattern.compile("\\b(Math|Integer|Long|System|Arrays)\\.(\\w+)").matcher(code);
        while (library.find()) {
            DUE.is("the library's " + library.group(), isAllowed(library.group(1), library.group(2)), true);
        }
        methodLengths(code);
    }

    /** Remarks go, but their line ends stay, so that lines still count. */
    private static String withoutRemarks(String text) {
        Matcher remark = Pattern.compile("(?s)/\\*.*?\\*/|//[^\n]*").matcher(text);
        return remark.replaceAll(m -> m.group().replaceAll("[^\n]", ""));
    }

    private static boolean isAllowed(String type, String name) {
        switch (type) {
            case "System":
                return name.equals("arraycopy");
            case "Arrays":
                return Set.of("copyOf", "copyOfRange", "fill").contains(name);
            default:
                return !name.endsWith("Exact") && !name.equals("random");
        }
    }

    private static void methodLengths(String code) {
        Matcher head = Pattern.compile("(?m)^[ \t]*(?:[\\w<>\\[\\]]+[ \t]+)*(\\w+)\\(([^();{}]*)\\)\\s*\\{")
                .matcher(code);
        Set<String> other = Set.of("if", "for", "while", "switch");
        int methods = 0;
        while (head.find()) {
            if (other.contains(head.group(1))) {
                continue;
            }
            methods++;
            int lines = linesOfBlock(code, head.end());
            DUE.is("lines of " + head.group(1) + "(): " + lines, lines > 65, false);
            DUE.is("inputs of " + head.group(1) + "()", head.group(2).split(",").length > 7, false);
        }
        DUE.is("methods were found", methods >= FACE.length + 1, true);
    }

    private static int linesOfBlock(String code, int start) {
        int depth = 1;
        int lines = 1;
        for (int i = start; i < code.length() && depth > 0; i++) {
            char c = code.charAt(i);
            depth += c == '{' ? 1 : c == '}' ? -1 : 0;
            lines += c == '\n' ? 1 : 0;
        }
        return lines;
    }

    /** No call may throw: one that does ends this test with a wrong exit code. */
    private static void anyInput() {
        Random chance = new Random(26);
        for (int run = 0; run < 400; run++) {
            FlowMeters x = new FlowMeters();
            x.works(2 + run % 5);
            for (int call = 0; call < 511; call++) {
                anyCall(x, chance, run % 3);
            }
        }
    }

    private static int any(Random chance, int wildness) {
        int[] edges = {-1, 10, 16, 17, 31, 32, 33, 2000, -2000, Integer.MIN_VALUE, Integer.MAX_VALUE};
        return chance.nextInt(3) < wildness
                ? chance.nextBoolean() ? edges[chance.nextInt(edges.length)] : chance.nextInt()
                : chance.nextInt(11);
    }

    private static void anyCall(FlowMeters x, Random chance, int wildness) {
        int a = any(chance, wildness);
        int b = any(chance, wildness);
        int part = chance.nextInt(2 + wildness);
        switch (chance.nextInt(26)) {
            case 0: x.works(chance.nextInt(40) == 0 ? b : -a); break;
            case 1: case 2: x.flow(a, b); break;
            case 3: case 4: x.read(a, b); break;
            case 5: x.unread(a); break;
            case 6: x.miss(a, b); break;
            case 7: x.price(a, b); break;
            case 8: x.sheet(a, b, any(chance, wildness), chance.nextInt(), chance.nextInt(), a, b); break;
            case 9: x.lose(a); break;
            case 10: x.hour(a); break;
            case 11: x.undo(); break;
            case 12: x.look(a); break;
            case 13: x.of(a, b); break;
            case 14: x.heap(a); break;
            case 15: x.seen(a); break;
            case 16: x.value(a, part); break;
            case 17: x.change(a, part); break;
            case 18: x.force(a, part); break;
            case 19: x.test(part); break;
            case 20: x.round(a, b); break;
            case 21: x.spare(a); break;
            case 22: x.fall(a, part); break;
            case 23: x.lie(a, part); break;
            case 24: x.rank(a); x.alike(a, b); break;
            default: x.least(chance.nextBoolean(), part);
        }
    }

    /** All calls of a run live in one room: its objects and elements are counted here as bytes. */
    private static void room() {
        if (!(ManagementFactory.getThreadMXBean() instanceof ThreadMXBean bean)) {
            return;
        }
        for (int call = 0; call < DEAREST.length; call++) {
            long made = madeBy(bean, call);
            DUE.is("512 calls of " + DEAREST[call] + " made " + made + " bytes", made > ROOM, false);
        }
    }

    private static long madeBy(ThreadMXBean bean, int call) {
        long self = Thread.currentThread().getId();
        long before = bean.getThreadAllocatedBytes(self);
        FlowMeters x = new FlowMeters();
        x.works(6);
        for (int f = 0; f < 10; f++) {
            x.flow(f % 6, (f + 1 + f / 6) % 6);
        }
        for (int f = 0; f < 10 && call != 3; f++) {
            x.read(f, 100 * f);
        }
        for (int i = 21; i < 512; i++) {
            dearCall(x, call, i);
        }
        return bean.getThreadAllocatedBytes(self) - before;
    }

    private static void dearCall(FlowMeters x, int call, int i) {
        switch (call) {
            case 0: x.sheet(i % 10, 2, 16, i, i, i, i); break;
            case 1: x.rank(i % 10); break;
            case 2: x.fall(i % 10, 1); break;
            case 3: x.least(true, 1); break;
            case 4: x.value(i % 10, 0); break;
            default: x.hour(i % 16);
        }
    }
}
