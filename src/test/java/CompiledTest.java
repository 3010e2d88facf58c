import java.io.IOException;
import java.io.PrintWriter;
import java.io.StringWriter;
import java.net.URISyntaxException;
import java.nio.file.Files;
import java.nio.file.Path;
import java.util.ArrayList;
import java.util.List;
import java.util.Map;
import java.util.TreeMap;
import java.util.TreeSet;
import java.util.regex.Matcher;
import java.util.regex.Pattern;
import java.util.spi.ToolProvider;
import java.util.stream.Stream;

/** Those rules of LANGUAGE.md that show in the compiled class: what it calls, how deep, where it makes objects. */
public final class CompiledTest {
    private static final int DEEPEST = 8;
    /** Rule 4, as far as it is used; Object's constructor and the copy of an array are the language's own. */
    private static final Pattern LIBRARY = Pattern.compile(
            "java/lang/Object\\.\"<init>\"|java/lang/(Integer|Long|Math)\\.(?!.*Exact$)[a-zA-Z]+|java/lang/System\\.arraycopy"
            + "|java/util/Arrays\\.(copyOf|copyOfRange|fill)|java/lang/String\\.(length|charAt|isEmpty|substring|toCharArray)");
    private static final Pattern CLASS = Pattern.compile("^(?:[a-z]+ )*class (LaughTax[$A-Za-z]*) .*\\{$");
    private static final Pattern METHOD = Pattern.compile("^  (?:[^ (]+ )*([$A-Za-z]+)\\(.*\\);$|^  static \\{\\};$");
    private static final Pattern DESCRIPTOR = Pattern.compile("^    descriptor: (\\(.*)$");
    private static final Pattern STEP = Pattern.compile("^ +\\d+: ([a-z_0-9]+)(.*)$");
    private static final Pattern CALLED = Pattern.compile("// (?:Interface)?Method (?:([^.: ]+)\\.)?([^:. ]+):(\\S+)$");

    private static final Map<String, TreeSet<String>> CALLS = new TreeMap<>();
    private static final TreeSet<String> FACE = new TreeSet<>();
    private static int wrong = 0;

    private static void fail(String what) {
        wrong++;
        System.out.println(what);
    }

    public static void main(String[] args) throws IOException, URISyntaxException {
        read(listing());
        if (FACE.size() != 50) {
            fail("the face has " + FACE.size() + " constructors and methods, due are 50");
        }
        int deepest = 0;
        for (String method : FACE) {
            deepest = Math.max(deepest, depth(method, new ArrayList<>()));
        }
        TreeSet<String> idle = new TreeSet<>(CALLS.keySet());
        FACE.forEach(f -> reached(f, idle));
        // the machine calls the one; javac puts the other into a class that is never made
        idle.removeIf(m -> m.contains("<clinit>") || m.contains("<init>"));
        idle.forEach(m -> fail("nothing calls " + m));
        System.out.println(CALLS.size() + " methods, " + deepest + " deep at most, "
                + (wrong == 0 ? "all within the rules" : wrong + " things are not within the rules"));
        if (wrong != 0) {
            System.exit(1);
        }
    }

    private static List<String> listing() throws IOException, URISyntaxException {
        Path where = Path.of(LaughTax.class.getProtectionDomain().getCodeSource().getLocation().toURI());
        List<String> words = new ArrayList<>(List.of("-c", "-p", "-s"));
        try (Stream<Path> files = Files.list(where)) {
            files.map(Path::toString).filter(f -> f.matches(".*[/\\\\]LaughTax(\\$[^/\\\\]*)?\\.class")).sorted().forEach(words::add);
        }
        StringWriter listing = new StringWriter();
        PrintWriter out = new PrintWriter(listing);
        ToolProvider lister = ToolProvider.findFirst("javap").orElseThrow();
        if (lister.run(out, out, words.toArray(new String[0])) != 0) {
            fail("the class can't be listed: " + listing);
        }
        return listing.toString().lines().toList();
    }

    private static void read(List<String> listing) {
        String inside = "";
        String name = "";
        String method = "";
        boolean isPublic = false;
        for (String line : listing) {
            Matcher m = CLASS.matcher(line);
            if (m.matches()) {
                inside = m.group(1);
            }
            m = METHOD.matcher(line);
            if (m.matches()) {
                isPublic = line.startsWith("  public ");
                String told = m.group(1) == null ? "<clinit>" : m.group(1);
                name = told.equals(inside) ? "\"<init>\"" : told;
            }
            m = DESCRIPTOR.matcher(line);
            if (m.matches()) {
                method = inside + "." + name + m.group(1);
                CALLS.put(method, new TreeSet<>());
                if (isPublic && inside.equals("LaughTax")) {
                    FACE.add(method);
                }
            }
            m = STEP.matcher(line);
            if (m.matches()) {
                look(inside, method, m.group(1), m.group(2));
            }
            if (line.contains("Exception table")) {
                fail(method + " catches something");
            }
        }
    }

    private static void look(String inside, String method, String step, String rest) {
        if (step.matches("athrow|monitorenter|invokedynamic|checkcast|instanceof|[dfl]rem|ldiv|jsr.*")) {
            fail(method + " has " + step);
        }
        if (step.matches("new|newarray|anewarray|multianewarray") && !method.contains("init>")) {
            fail(method + " makes something: " + step + rest);
        }
        if (!step.startsWith("invoke")) {
            return;
        }
        Matcher m = CALLED.matcher(rest);
        if (!m.find()) {
            fail(method + " calls what can't be read: " + rest);
            return;
        }
        String owner = m.group(1) == null ? inside : m.group(1);
        if (owner.startsWith("LaughTax")) {
            CALLS.get(method).add(owner + "." + m.group(2) + m.group(3));
        } else if (!LIBRARY.matcher(owner + "." + m.group(2)).matches()) {
            fail(method + " calls " + owner + "." + m.group(2));
        }
    }

    /** How many of the class's own calls stand open at once, the first one among them. */
    private static int depth(String method, List<String> open) {
        if (open.contains(method)) {
            fail("recursion: " + open + " and again " + method);
            return 1;
        }
        if (!CALLS.containsKey(method)) {
            fail(open + " calls " + method + ", which isn't there");
            return 1;
        }
        open.add(method);
        if (open.size() > DEEPEST) {
            fail("deeper than " + DEEPEST + ": " + open);
        }
        int deepest = 0;
        for (String called : CALLS.get(method)) {
            deepest = Math.max(deepest, depth(called, open));
        }
        open.remove(open.size() - 1);
        return 1 + deepest;
    }

    private static void reached(String method, TreeSet<String> idle) {
        if (idle.remove(method)) {
            CALLS.get(method).forEach(called -> reached(called, idle));
        }
    }
}
