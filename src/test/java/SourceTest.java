import com.sun.management.ThreadMXBean;
import java.io.IOException;
import java.lang.management.ManagementFactory;
import java.lang.reflect.Array;
import java.lang.reflect.Constructor;
import java.lang.reflect.Field;
import java.lang.reflect.Method;
import java.lang.reflect.Modifier;
import java.nio.file.Files;
import java.nio.file.Path;
import java.util.ArrayList;
import java.util.IdentityHashMap;
import java.util.List;
import java.util.Map;
import java.util.TreeSet;
import java.util.regex.Matcher;
import java.util.regex.Pattern;

/** The rules of LANGUAGE.md that can be seen in the source and in the compiled class. */
public final class SourceTest {
    private static final Checks CHECKS = new Checks("SourceTest");
    private static final String[] FACE = {"int feed(int,int,int,int,int)", "int story(int,int)", "int law(int)",
        "boolean end(int,int,int,int,int)", "boolean teller(int,int,int)", "boolean listener(int,int,int)",
        "int evenings(int)", "int tried(int,int)", "int other(int,int)", "int copy()", "int first(int,int)",
        "int storyIs(int,int)", "int open(int,int,int)", "int endIs(int,int)", "int tellerIs(int,int)",
        "int listenerIs(int,int)", "int cheapest(int,int)", "int buys(int,int)", "int fitting(int,int,int)",
        "int wouldDo(int,int,int)", "int series(int,int)", "int knots()", "int winter(int,int,int)",
        "int lent(int,int)", "int forged(int,int,int,int)", "int yawns(int,int,int)", "int book(int,int,int)",
        "boolean seed(int)", "int keep()", "boolean undo()", "int check(int)", "int count(int)"};
    private static final List<String> CALLS = List.of("Arrays.fill", "Arrays.copyOf", "Arrays.copyOfRange",
        "System.arraycopy", "List.of");
    private static final List<String> IMPORTS = List.of("java.util.Arrays", "java.util.ArrayList", "java.util.List",
        "java.util.Iterator");

    public static void main(String[] args) throws IOException, IllegalAccessException {
        String source = Files.readString(Path.of("src/main/java/LineGuild.java"));
        String code = withoutCommentsAndTexts(source);
        face();
        words(code);
        calls(code);
        sizes(code);
        room();
        roomOfCalls();
        CHECKS.finish();
    }

    private static void due(String what, long got, long want) {
        CHECKS.due(what, got, want);
    }

    private static String withoutCommentsAndTexts(String source) {
        return source.replaceAll("(?s)/\\*.*?\\*/", "").replaceAll("//[^\n]*", "")
            .replaceAll("\"(\\\\.|[^\"\\\\])*\"", "\"\"").replaceAll("'(\\\\.|[^'\\\\])'", "'x'");
    }

    private static void face() {
        TreeSet<String> want = new TreeSet<>(List.of(FACE));
        TreeSet<String> names = new TreeSet<>();
        for (String f : FACE) {
            names.add(f.substring(f.indexOf(' ') + 1, f.indexOf('(')));
        }
        for (Method m : LineGuild.class.getDeclaredMethods()) {
            StringBuilder b = new StringBuilder(m.getReturnType() + " " + m.getName() + "(");
            for (Class<?> p : m.getParameterTypes()) {
                b.append(b.charAt(b.length() - 1) == '(' ? "" : ",").append(p);
            }
            String text = b.append(')').toString();
            if (Modifier.isPublic(m.getModifiers())) {
                due("rule 1: " + text, want.remove(text) ? 1 : 0, 1);
            } else {
                due("rule 1: private " + text, Modifier.isPrivate(m.getModifiers()) ? 1 : 0, 1);
                due("rule 1: name of " + text, names.contains(m.getName()) ? 1 : 0, 0);
            }
        }
        due("rule 1: missing " + want, want.size(), 0);
        for (Field f : LineGuild.class.getDeclaredFields()) {
            due("rule 1: " + f, Modifier.isPrivate(f.getModifiers()) || f.getName().equals("NONE") ? 1 : 0, 1);
        }
        Constructor<?>[] made = LineGuild.class.getDeclaredConstructors();
        due("rule 1: constructors", made.length, 1);
        due("rule 1: constructor", made[0].getParameterCount(), 0);
        for (Class<?> c : LineGuild.class.getDeclaredClasses()) {
            due("rule 2: static " + c, Modifier.isStatic(c.getModifiers()) ? 1 : 0, 1);
            boolean isSeen = Modifier.isPublic(c.getModifiers()) || Modifier.isProtected(c.getModifiers());
            due("rule 1: private or package-visible " + c, isSeen ? 1 : 0, 0);
            for (Method m : c.getDeclaredMethods()) {
                due("rule 1: private " + m, Modifier.isPrivate(m.getModifiers()) ? 1 : 0, 1);
                due("rule 1: name of " + m, names.contains(m.getName()) ? 1 : 0, 0);
            }
        }
        due("rule 1: final", Modifier.isFinal(LineGuild.class.getModifiers()) ? 1 : 0, 1);
        due("rule 11: some twelve classes", LineGuild.class.getDeclaredClasses().length < 13 ? 1 : 0, 1);
    }

    private static void words(String code) {
        String[] barred = {"throw", "throws", "try", "catch", "finally", "synchronized", "assert", "package", "Object",
            "hashCode", "Thread", "Exception", "Error", "Random", "currentTimeMillis", "nanoTime", "native", "File"};
        for (String word : barred) {
            due("barred: " + word, Pattern.compile("\\b" + word + "\\b").matcher(code).find() ? 1 : 0, 0);
        }
        for (String sign : new String[] {"::", "static {", "while (true)", "for (;;)"}) {
            due("barred: " + sign, code.contains(sign) ? 1 : 0, 0);
        }
        for (String line : code.split("\n")) {
            boolean isCase = line.trim().startsWith("case ") || line.trim().startsWith("default ");
            due("rule 2: no lambda: " + line.trim(), line.contains("->") && !isCase ? 1 : 0, 0);
        }
        for (char c : code.toCharArray()) {
            if (c > 127) {
                due("rule 4: sign", c, 0);
            }
        }
        Matcher imports = Pattern.compile("import ([^;]*);").matcher(code);
        while (imports.find()) {
            due("rule 4: import " + imports.group(1), IMPORTS.contains(imports.group(1)) ? 1 : 0, 1);
        }
        Matcher statics = Pattern.compile("\\n *(private |public )?static (?!final)[^(;]*[;=]").matcher(code);
        due("rule 5: static fields are final", statics.find() ? 1 : 0, 0);
    }

    private static void calls(String code) {
        List<String> own = new ArrayList<>();
        Matcher classes = Pattern.compile("\\b(?:class|enum|interface|record) ([A-Z]\\w*)").matcher(code);
        while (classes.find()) {
            own.add(classes.group(1));
        }
        Matcher m = Pattern.compile("\\b([A-Z][a-z][A-Za-z]*)\\.([a-z][A-Za-z]*)\\(").matcher(code);
        while (m.find()) {
            String call = m.group(1) + "." + m.group(2);
            boolean isReckoning = List.of("Integer", "Long", "Math").contains(m.group(1)) && !call.endsWith("Exact");
            due("rule 4: " + call, isReckoning || own.contains(m.group(1)) || CALLS.contains(call) ? 1 : 0, 1);
        }
    }

    private static void sizes(String code) {
        String[] lines = code.split("\n");
        int start = -1;
        String indent = "";
        for (int i = 0; i < lines.length; i++) {
            Matcher m = Pattern.compile("^( +)(private|public) [^=;]*\\(([^)]*)\\) \\{$").matcher(lines[i]);
            if (m.find()) {
                start = i;
                indent = m.group(1);
                due("rule 11: parameters of " + lines[i].trim(), m.group(3).split(",").length <= 7 ? 1 : 0, 1);
            } else if (start >= 0 && lines[i].equals(indent + "}")) {
                due("rule 11: lines of " + lines[start].trim(), i - start < 66 ? 1 : 0, 1);
                start = -1;
            }
        }
        for (Class<?> c : LineGuild.class.getDeclaredClasses()) {
            fields(c);
        }
        fields(LineGuild.class);
    }

    private static void fields(Class<?> c) {
        int many = 0;
        for (Field f : c.getDeclaredFields()) {
            many += Modifier.isStatic(f.getModifiers()) ? 0 : 1;
        }
        due("rule 11: fields of " + c + ": " + many, many <= 22 ? 1 : 0, 1);
    }

    /** What an object is made of. */
    private static void room() throws IllegalAccessException {
        Map<Object, Boolean> seen = new IdentityHashMap<>();
        List<Object> todo = new ArrayList<>();
        todo.add(new LineGuild());
        long elements = 0;
        while (!todo.isEmpty()) {
            Object o = todo.remove(todo.size() - 1);
            if (o == null || o instanceof String || seen.put(o, true) != null) {
                continue;
            }
            if (o.getClass().isArray()) {
                elements += Array.getLength(o);
                for (int i = 0; i < Array.getLength(o) && !o.getClass().getComponentType().isPrimitive(); i++) {
                    todo.add(Array.get(o, i));
                }
                continue;
            }
            for (Field f : o.getClass().getDeclaredFields()) {
                if (!Modifier.isStatic(f.getModifiers()) && o.getClass().getName().startsWith("LineGuild")) {
                    elements++;
                    f.setAccessible(true);
                    if (!f.getType().isPrimitive()) {
                        todo.add(f.get(o));
                    }
                }
            }
        }
        System.out.println("SourceTest: an object is " + seen.size() + " objects and arrays, " + elements
            + " fields and elements");
        due("room: objects", seen.size() < 600_000 ? 1 : 0, 1);
        due("room: elements", elements < 7_300_000 ? 1 : 0, 1);
    }

    /** What the dearest calls of a run make must find room, too: an element is at least a byte. */
    private static void roomOfCalls() {
        LineGuild g = new LineGuild();
        for (int k = 0; k < 6; k++) {
            Checks.story(g, k, "9(8*)");
        }
        for (int e = 0; e < 10; e++) {
            g.end(e, 1023, 0, 9, 1);
        }
        Checks.law(g, "n20(1=1);pc+e(1=1);t1(1=1)");
        g.copy();
        for (int l = 0; l < 10; l++) {
            g.teller(l % 4, 0, 9999);
            g.listener(l, l % 4, 5);
        }
        ThreadMXBean threads = ManagementFactory.getPlatformMXBean(ThreadMXBean.class);
        long before = threads.getCurrentThreadAllocatedBytes();
        int sum = 0;
        for (int i = 0; i < 20; i++) {
            sum += g.tried(60, 0) + g.other(60, 0) + g.first(60, 0) + g.fitting(0, i, 100) + g.series(31, 20);
            sum += g.cheapest(1023, 0) + g.wouldDo(0, 0, 0) + g.knots() + g.forged(1023, 0, -1, 1) + g.book(63, 3, 0);
            sum += g.feed(1, 1, 1, 1, 1) + g.lent(8, 20) + g.feed(1, 1, 1, 1, 1) + g.winter(300, 10, 0);
            sum += g.feed(1, 1, 1, 1, 1) + g.yawns(0, 20, 0) + g.keep() + (g.undo() ? 1 : 0) + g.evenings(60);
        }
        long made = threads.getCurrentThreadAllocatedBytes() - before;
        System.out.println("SourceTest: 380 dear calls take " + made + " bytes, and answer " + sum);
        due("room: bytes of calls", made < 7_300_000 ? 1 : 0, 1);
    }
}
