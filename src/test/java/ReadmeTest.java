import java.io.IOException;
import java.io.InputStream;
import java.lang.reflect.InvocationTargetException;
import java.lang.reflect.Method;
import java.lang.reflect.Modifier;
import java.nio.file.Files;
import java.nio.file.Path;
import java.util.ArrayList;
import java.util.List;
import java.util.TreeSet;
import java.util.regex.Matcher;
import java.util.regex.Pattern;
import java.util.stream.Stream;

/** What README.md says is so: its calls give its answers, its commands run, and what it names is there. */
public final class ReadmeTest {
    private static final Checks CHECKS = new Checks("ReadmeTest");
    private static final Pattern CALL = Pattern.compile("guild\\.(\\w+)\\(([^)]*)\\); *// (-?\\d+|true|false)(:.*)?");
    private static final String ALL_TESTS = ".ci/run";

    public static void main(String[] args) throws IOException, InterruptedException {
        String page = Files.readString(Path.of("README.md"));
        calls(blocks(page, "java"));
        answersAreExplained(page);
        commands(blocks(page, "sh"));
        files(page);
        classes(page);
        CHECKS.finish();
    }

    private static void due(String what, boolean got) {
        CHECKS.due(what, got, true);
    }

    /** The blocks of a kind, each as its lines. */
    private static List<List<String>> blocks(String page, String kind) {
        List<List<String>> found = new ArrayList<>();
        Matcher m = Pattern.compile("(?s)```" + kind + "\n(.*?)```").matcher(page);
        while (m.find()) {
            found.add(List.of(m.group(1).split("\n")));
        }
        return found;
    }

    /** Makes each call that the page shows, in its order; every method must come once at least. */
    private static void calls(List<List<String>> blocks) {
        TreeSet<String> missing = new TreeSet<>();
        for (Method method : LineGuild.class.getDeclaredMethods()) {
            if (Modifier.isPublic(method.getModifiers())) {
                missing.add(method.getName());
            }
        }
        LineGuild guild = null;
        int made = 0;
        for (List<String> block : blocks) {
            for (String line : block) {
                Matcher m = CALL.matcher(line);
                if (line.equals("LineGuild guild = new LineGuild();")) {
                    guild = new LineGuild();
                    made = 0;
                } else if (guild != null && m.matches()) {
                    CHECKS.due(line, answer(guild, m.group(1), m.group(2)), m.group(3));
                    missing.remove(m.group(1));
                    made++;
                } else {
                    due("a call with its answer on a guild that was made: " + line, false);
                }
                due("at most 512 calls: " + line, made <= 512);
            }
        }
        due("methods that are not shown: " + missing, missing.isEmpty());
    }

    private static String answer(LineGuild guild, String name, String arguments) {
        String[] parts = arguments.isEmpty() ? new String[0] : arguments.split(", ");
        Object[] given = new Object[parts.length];
        for (int i = 0; i < parts.length; i++) {
            given[i] = (int) (long) Long.decode(parts[i]);
        }
        try {
            for (Method method : LineGuild.class.getDeclaredMethods()) {
                if (Modifier.isPublic(method.getModifiers()) && method.getName().equals(name)
                    && method.getParameterCount() == given.length) {
                    return String.valueOf(method.invoke(guild, given));
                }
            }
        } catch (IllegalAccessException | InvocationTargetException e) {
            return e.toString();
        }
        return "no such method";
    }

    /** How an object is made, how bytes come to the tape, and what is answered for a call that is refused. */
    private static void answersAreExplained(String page) {
        String text = page.replaceAll("(?s)```.*?```", "");
        for (String word : new String[] {"`new LineGuild()`", "`feed`", "`NONE` (-1):", "`false`", "\n-2:", "\n-4:",
            "A FAULT"}) {
            due("the page tells of " + word, text.contains(word));
        }
    }

    /** Runs the commands as they stand, in a copy of the project; .ci/run is what runs this test already. */
    private static void commands(List<List<String>> blocks) throws IOException, InterruptedException {
        Path copy = Files.createTempDirectory("readme");
        copyTree(Path.of("src"), copy.resolve("src"));
        boolean tellsAllTests = false;
        for (List<String> block : blocks) {
            if (block.equals(List.of(ALL_TESTS))) {
                tellsAllTests = true;
                due(ALL_TESTS + " can be run", Files.isExecutable(Path.of(ALL_TESTS)));
                continue;
            }
            Process process = new ProcessBuilder("sh", "-e", "-c", String.join("\n", block)).directory(copy.toFile())
                .redirectErrorStream(true).start();
            String printed;
            try (InputStream in = process.getInputStream()) {
                printed = new String(in.readAllBytes());
            }
            int code = process.waitFor();
            CHECKS.due("exit code of " + block + ", which printed " + printed, code, 0);
        }
        due("the page tells how all tests are run", tellsAllTests);
        due("the page tells how one test is run", blocks.size() > 1);
        removeTree(copy);
    }

    private static void copyTree(Path from, Path to) throws IOException {
        try (Stream<Path> all = Files.walk(from)) {
            for (Path path : (Iterable<Path>) all::iterator) {
                Path there = to.resolve(from.relativize(path).toString());
                if (Files.isDirectory(path)) {
                    Files.createDirectories(there);
                } else {
                    Files.copy(path, there);
                }
            }
        }
    }

    private static void removeTree(Path top) throws IOException {
        List<Path> paths;
        try (Stream<Path> all = Files.walk(top)) {
            paths = new ArrayList<>(all.toList());
        }
        for (int i = paths.size() - 1; i >= 0; i--) {
            Files.delete(paths.get(i));
        }
    }

    /** Each file that the page names is there, and the page names each test. */
    private static void files(String page) throws IOException {
        Matcher m = Pattern.compile("`((?:\\.\\./)?(?:src|shared)/[^` ]*)`").matcher(page);
        while (m.find()) {
            due("is there: " + m.group(1), Files.exists(Path.of(m.group(1))));
        }
        try (Stream<Path> tests = Files.list(Path.of("src/test/java"))) {
            for (Path test : (Iterable<Path>) tests::iterator) {
                boolean isNamed = !test.toString().endsWith("Test.java") || page.contains("`" + test + "`");
                due("the page names " + test, isNamed);
            }
        }
    }

    /** Each class inside is named on the page, and each one that is named under "How it is built" is there. */
    private static void classes(String page) {
        int from = page.indexOf("## How it is built");
        int to = page.indexOf("\n## ", from + 1);
        due("the page tells how it is built", from >= 0 && to > from);
        TreeSet<String> named = new TreeSet<>();
        Matcher m = Pattern.compile("`([A-Z]\\w*)`").matcher(page.substring(Math.max(0, from), Math.max(0, to)));
        while (m.find()) {
            named.add(m.group(1));
        }
        TreeSet<String> there = new TreeSet<>();
        for (Class<?> c : LineGuild.class.getDeclaredClasses()) {
            there.add(c.getSimpleName());
        }
        CHECKS.due("classes", named.toString(), there.toString());
    }
}
