import java.io.IOException;
import java.lang.reflect.Array;
import java.lang.reflect.Constructor;
import java.lang.reflect.Field;
import java.lang.reflect.Method;
import java.lang.reflect.Modifier;
import java.nio.file.Files;
import java.nio.file.Path;
import java.util.ArrayList;
import java.util.IdentityHashMap;
import java.util.List;
import java.util.Map;
import java.util.TreeSet;
import java.util.regex.Matcher;
import java.util.regex.Pattern;

/** The rules of LANGUAGE.md that can be seen in the source and in the compiled class. */
public final class SourceTest {
    private static final Checks CHECKS = new Checks("SourceTest");
    private static final String[] FACE = {"int feed(int,int,int,int,int)", "int story(int,int)", "int law(int)",
        "boolean end(int,int,int,int,int)", "boolean teller(int,int,int)", "boolean listener(int,int,int)",
        "int evenings(int)", "int tried(int,int)", "int other(int,int)", "int copy()", "int first(int,int)",
        "int storyIs(int,int)", "int open(int,int,int)", "int endIs(int,int)", "int tellerIs(int,int)",
        "int listenerIs(int,int)", "int cheapest(int,int)", "int buys(int,int)", "int fitting(int,int,int)",
        "int wouldDo(int,int,int)", "int series(int,int)", "int knots()", "int winter(int,int,int)",
        "int lent(int,int)", "int forged(int,int,int,int)", "int yawns(int,int,int)", "int book(int,int,int)",
        "boolean seed(int)", "int keep()", "boolean undo()", "int check(int)", "int count(int)"};
    private static final String[] CALLS = {"Arrays.fill", "System.arraycopy", "Integer.bitCount", "Math.max", "Math.min"};

    public static void main(String[] args) throws IOException, IllegalAccessException {
        String source = Files.readString(Path.of("src/main/java/LineGuild.java"));
        String code = withoutCommentsAndTexts(source);
        face();
        words(code);
        calls(code);
        making(code);
        sizes(code);
        room();
        CHECKS.finish();
    }

    private static void due(String what, long got, long want) {
        CHECKS.due(what, got, want);
    }

    private static String withoutCommentsAndTexts(String source) {
        return source.replaceAll("(?s)/\\*.*?\\*/", "").replaceAll("//[^\n]*", "")
            .replaceAll("\"(\\\\.|[^\"\\\\])*\"", "\"\"").replaceAll("'(\\\\.|[^'\\\\])'", "'x'");
    }

    private static void face() {
        TreeSet<String> want = new TreeSet<>(List.of(FACE));
        TreeSet<String> names = new TreeSet<>();
        for (String f : FACE) {
            names.add(f.substring(f.indexOf(' ') + 1, f.indexOf('(')));
        }
        for (Method m : LineGuild.class.getDeclaredMethods()) {
            StringBuilder b = new StringBuilder(m.getReturnType() + " " + m.getName() + "(");
            for (Class<?> p : m.getParameterTypes()) {
                b.append(b.charAt(b.length() - 1) == '(' ? "" : ",").append(p);
            }
            String text = b.append(')').toString();
            if (Modifier.isPublic(m.getModifiers())) {
                due("rule 1: " + text, want.remove(text) ? 1 : 0, 1);
            } else {
                due("rule 1: private " + text, Modifier.isPrivate(m.getModifiers()) ? 1 : 0, 1);
                due("rule 1: name of " + text, names.contains(m.getName()) ? 1 : 0, 0);
            }
        }
        due("rule 1: missing " + want, want.size(), 0);
        for (Field f : LineGuild.class.getDeclaredFields()) {
            due("rule 1: " + f, Modifier.isPrivate(f.getModifiers()) || f.getName().equals("NONE") ? 1 : 0, 1);
        }
        Constructor<?>[] made = LineGuild.class.getDeclaredConstructors();
        due("rule 1: constructors", made.length, 1);
        due("rule 1: constructor", made[0].getParameterCount(), 0);
        for (Class<?> c : LineGuild.class.getDeclaredClasses()) {
            due("rule 2: static " + c, Modifier.isStatic(c.getModifiers()) ? 1 : 0, 1);
            for (Method m : c.getDeclaredMethods()) {
                due("rule 1: name of " + m, names.contains(m.getName()) ? 1 : 0, 0);
            }
        }
        due("rule 11: classes", LineGuild.class.getDeclaredClasses().length < 12 ? 1 : 0, 1);
    }

    private static void words(String code) {
        String[] barred = {"throw", "throws", "try", "catch", "finally", "synchronized", "assert", "instanceof", "float",
            "package", "Object", "equals", "hashCode", "toString", "Thread", "volatile", "Exception", "strictfp",
            "protected", "var", "yield", "native", "transient", "super", "MAX_VALUE", "MIN_VALUE"};
        for (String word : barred) {
            due("barred: " + word, Pattern.compile("\\b" + word + "\\b").matcher(code).find() ? 1 : 0, 0);
        }
        for (String sign : new String[] {"->", "::", "static {", "@", "while (true)", "for (;;)"}) {
            due("barred: " + sign, code.contains(sign) ? 1 : 0, 0);
        }
        for (char c : code.toCharArray()) {
            if (c > 126) {
                due("rule 4: sign", c, 0);
            }
        }
        Matcher imports = Pattern.compile("import ([^;]*);").matcher(code);
        while (imports.find()) {
            due("rule 4: import " + imports.group(1), imports.group(1).equals("java.util.Arrays") ? 1 : 0, 1);
        }
        Matcher statics = Pattern.compile("\\n *(private |public )?static (?!final)[^(;]*[;=]").matcher(code);
        due("rule 5: static fields are final", statics.find() ? 1 : 0, 0);
    }

    private static void calls(String code) {
        Matcher m = Pattern.compile("\\b([A-Z][a-z][A-Za-z]*)\\.([a-z][A-Za-z]*)\\(").matcher(code);
        List<String> own = List.of("Story.behindTurn", "Story.isClosing", "Story.namedBy");
        while (m.find()) {
            String call = m.group(1) + "." + m.group(2);
            boolean fine = own.contains(call) || List.of(CALLS).contains(call);
            due("rule 4: " + call, fine ? 1 : 0, 1);
        }
    }

    /** What is made is made by field initialisers and the constructor, so that no call takes room. */
    private static void making(String code) {
        boolean inConstructor = false;
        for (String line : code.split("\n")) {
            if (line.startsWith("    public LineGuild()")) {
                inConstructor = true;
            } else if (line.startsWith("    }")) {
                inConstructor = false;
            }
            if (Pattern.compile("\\bnew\\b").matcher(line).find()) {
                boolean isField = line.trim().startsWith("private ") && line.trim().endsWith(";");
                due("rule 12: " + line.trim(), isField || inConstructor ? 1 : 0, 1);
            }
        }
    }

    private static void sizes(String code) {
        String[] lines = code.split("\n");
        int start = -1;
        String indent = "";
        for (int i = 0; i < lines.length; i++) {
            Matcher m = Pattern.compile("^( +)(private|public) [^=;]*\\(([^)]*)\\) \\{$").matcher(lines[i]);
            if (m.find()) {
                start = i;
                indent = m.group(1);
                due("rule 11: parameters of " + lines[i].trim(), m.group(3).split(",").length <= 7 ? 1 : 0, 1);
            } else if (start >= 0 && lines[i].equals(indent + "}")) {
                due("rule 11: lines of " + lines[start].trim(), i - start < 60 ? 1 : 0, 1);
                start = -1;
            }
        }
        for (Class<?> c : LineGuild.class.getDeclaredClasses()) {
            fields(c);
        }
        fields(LineGuild.class);
    }

    private static void fields(Class<?> c) {
        int many = 0;
        for (Field f : c.getDeclaredFields()) {
            many += Modifier.isStatic(f.getModifiers()) ? 0 : 1;
        }
        due("rule 11: fields of " + c + ": " + many, many <= 20 ? 1 : 0, 1);
    }

    /** A run of 512 calls that each make an object must find room, too. */
    private static void room() throws IllegalAccessException {
        Map<Object, Boolean> seen = new IdentityHashMap<>();
        List<Object> todo = new ArrayList<>();
        todo.add(new LineGuild());
        long elements = 0;
        while (!todo.isEmpty()) {
            Object o = todo.remove(todo.size() - 1);
            if (o == null || o instanceof String || seen.put(o, true) != null) {
                continue;
            }
            if (o.getClass().isArray()) {
                elements += Array.getLength(o);
                for (int i = 0; i < Array.getLength(o) && !o.getClass().getComponentType().isPrimitive(); i++) {
                    todo.add(Array.get(o, i));
                }
                continue;
            }
            for (Field f : o.getClass().getDeclaredFields()) {
                if (!Modifier.isStatic(f.getModifiers())) {
                    elements++;
                    f.setAccessible(true);
                    if (!f.getType().isPrimitive()) {
                        todo.add(f.get(o));
                    }
                }
            }
        }
        System.out.println("SourceTest: an object is " + seen.size() + " objects and arrays, " + elements
            + " fields and elements");
        due("room: objects", seen.size() < 600_000 / 512 ? 1 : 0, 1);
        due("room: elements", elements < 7_300_000 / 512 ? 1 : 0, 1);
    }
}
