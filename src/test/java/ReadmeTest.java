import java.io.IOException;
import java.lang.reflect.Method;
import java.lang.reflect.Modifier;
import java.nio.file.Files;
import java.nio.file.Path;
import java.util.ArrayList;
import java.util.Arrays;
import java.util.List;
import java.util.TreeMap;
import java.util.TreeSet;
import java.util.regex.Matcher;
import java.util.regex.Pattern;
import java.util.stream.Stream;

/** README.md: its example answers as it says, it names all calls and tests, and its command runs the tests. */
public final class ReadmeTest {
    private static final Path PROJECT = Path.of(System.getProperty("project", "."));
    private static final String FIRST_LINE = "LaughTax x = new LaughTax();";
    private static final Pattern CALL = Pattern.compile("x\\.([a-zA-Z]+)\\(([^)]*)\\); +// (-?\\d+): .+");
    private static final int ENOUGH_CALLS = 10;

    private static int wrong = 0;

    private static void fail(String what) {
        wrong++;
        System.out.println(what);
    }

    public static void main(String[] args) throws Exception {
        String readme = Files.readString(PROJECT.resolve("README.md"));
        example(readme);
        namesCalls(readme);
        namesTests(readme);
        command(readme);
        System.out.println(wrong == 0 ? "README.md is as due" : wrong + " things of README.md are not as due");
        if (wrong != 0) {
            System.exit(1);
        }
    }

    // ---- the example

    private static void example(String readme) throws Exception {
        Matcher blocks = Pattern.compile("(?s)```java\n(.*?)```").matcher(readme);
        if (!blocks.find()) {
            fail("there is no example");
            return;
        }
        List<String> lines = blocks.group(1).lines().toList();
        if (lines.size() < ENOUGH_CALLS || !lines.get(0).equals(FIRST_LINE)) {
            fail("the example is too short, or doesn't begin with " + FIRST_LINE);
            return;
        }
        LaughTax x = new LaughTax();
        for (String line : lines.subList(1, lines.size())) {
            exampleLine(x, line);
        }
    }

    private static void exampleLine(LaughTax x, String line) throws Exception {
        Matcher m = CALL.matcher(line);
        if (!m.matches()) {
            fail("not a call with its answer: " + line);
            return;
        }
        String[] told = m.group(2).isEmpty() ? new String[0] : m.group(2).split(", ");
        Method method = face().get(m.group(1));
        if (method == null || method.getParameterCount() != told.length) {
            fail("no such call: " + line);
            return;
        }
        Object[] arguments = Arrays.stream(told).map(Integer::decode).toArray();
        long got = ((Number) method.invoke(x, arguments)).longValue();
        if (got != Long.parseLong(m.group(3))) {
            fail(line + ": answered " + got);
        }
    }

    private static TreeMap<String, Method> face() {
        TreeMap<String, Method> face = new TreeMap<>();
        for (Method m : LaughTax.class.getDeclaredMethods()) {
            if (Modifier.isPublic(m.getModifiers())) {
                face.put(m.getName(), m);
            }
        }
        return face;
    }

    // ---- what it names

    private static void namesCalls(String readme) {
        TreeSet<String> named = new TreeSet<>();
        readme.lines().filter(l -> l.startsWith("| `")).forEach(l -> {
            Matcher m = Pattern.compile("`([a-zA-Z]+)`").matcher(l);
            while (m.find()) {
                if (!named.add(m.group(1))) {
                    fail("the table names twice: " + m.group(1));
                }
            }
        });
        if (!named.equals(face().keySet())) {
            fail("the table names " + named + ", due is " + face().keySet());
        }
    }

    private static void namesTests(String readme) throws IOException {
        TreeSet<String> named = new TreeSet<>();
        Matcher m = Pattern.compile("(?m)^- `([a-zA-Z]+Test)`: ").matcher(readme);
        while (m.find()) {
            named.add(m.group(1));
        }
        TreeSet<String> there = new TreeSet<>();
        try (Stream<Path> files = Files.list(PROJECT.resolve("src/test/java"))) {
            files.forEach(f -> there.add(f.getFileName().toString().replace(".java", "")));
        }
        if (!named.equals(there)) {
            fail("it names the tests " + named + ", due is " + there);
        }
    }

    // ---- its command

    private static void command(String readme) throws Exception {
        Matcher m = Pattern.compile("(?s)## How to run its tests\n\n    ([^\n]+)\n").matcher(readme);
        if (!m.find()) {
            fail("there is no command for the tests");
            return;
        }
        String command = m.group(1);
        run(command, "0", "0", true, "2 passed, 0 failed");
        run(command, "1", "0", false, "1 passed, 1 failed");
        run(command, "0", "1", false, "1 passed, 1 failed");
        run(command, "this doesn't compile", "0", false, "1 passed, 1 failed");
        run(command, "0", "nor this", false, "1 passed, 1 failed");
        run(command, null, "0", false, "1 passed, 1 failed");
        run(command, "0", null, false, "1 passed, 1 failed");
    }

    /** The command in a small project of two tests, which end with these codes (null: there is none). */
    private static void run(String command, String own, String shared, boolean passes, String lastLine) throws Exception {
        Path room = Files.createTempDirectory("readme");
        Path project = room.resolve("a project");
        Files.createDirectories(project.resolve("src/test/java"));
        Files.createDirectories(room.resolve("shared/tests"));
        for (String file : new String[] {".ci/run", "src/main/java/LaughTax.java", "src/test/help/Rooms.java"}) {
            Files.createDirectories(project.resolve(file).getParent());
            Files.copy(PROJECT.resolve(file), project.resolve(file));
        }
        probe(project.resolve("src/test/java/OwnProbe.java"), "OwnProbe", "Rooms.empty()", own);
        probe(room.resolve("shared/tests/SharedProbe.java"), "SharedProbe", "new LaughTax()", shared);
        Path out = room.resolve("out");
        Process process = new ProcessBuilder("sh", "-c", command).directory(project.toFile())
                .redirectErrorStream(true).redirectOutput(out.toFile()).start();
        boolean passed = process.waitFor() == 0;
        List<String> lines = Files.readString(out).lines().toList();
        String what = "'" + command + "' with tests that end with " + own + " and " + shared;
        if (passed != passes) {
            fail(what + (passed ? " passed" : " failed"));
        }
        if (lines.isEmpty() || !lines.get(lines.size() - 1).equals(lastLine)) {
            fail(what + " ended with " + lines + ", due is " + lastLine);
        }
        ran(what, lines, "OwnProbe", own);
        ran(what, lines, "SharedProbe", shared);
        remove(room);
    }

    private static void probe(Path file, String name, String made, String code) throws IOException {
        if (code != null) {
            Files.writeString(file, "public final class " + name + " { public static void main(String[] args) { LaughTax x = "
                    + made + "; System.out.println(\"" + name + " ran, z is \" + x.count(6)); System.exit(" + code + "); } }\n");
        }
    }

    private static void ran(String what, List<String> lines, String name, String code) {
        boolean due = code != null && code.length() == 1;
        if (lines.contains(name + " ran, z is 1") != due) {
            fail(what + (due ? " didn't run " : " ran ") + name);
        }
    }

    private static void remove(Path room) throws IOException {
        List<Path> all = new ArrayList<>();
        try (Stream<Path> files = Files.walk(room)) {
            files.forEach(all::add);
        }
        for (int i = all.size() - 1; i >= 0; i--) {
            Files.delete(all.get(i));
        }
    }
}
