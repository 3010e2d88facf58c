import java.io.IOException;
import java.lang.reflect.Constructor;
import java.lang.reflect.Method;
import java.lang.reflect.Modifier;
import java.nio.file.Files;
import java.nio.file.Path;
import java.util.ArrayList;
import java.util.Arrays;
import java.util.List;
import java.util.TreeSet;
import java.util.regex.Matcher;
import java.util.regex.Pattern;

/** The public face as the document prints it, and those rules of LANGUAGE.md that can be seen from outside. */
public final class RulesTest {
    private static final String[] FACE = {
        "int person(int, int)", "int of(int, int)", "int change(int, int, int)", "int joke(int, int)",
        "int jokeOf(int, int)", "int law(int, int)", "int strength(int, int, int)", "int tell(int)",
        "int evening(int, int)", "int now(int)", "int relief(int)", "int laugh(int, int)", "int rounds(int)",
        "int raised(int)", "int ahead(int, int)", "int stale(int)", "int broke(int, int)", "int caught(int)",
        "int starter()", "int fewest()", "int away(int, int)", "int seatFor(int, int)", "int kindFor(int, int)",
        "int reachFor(int)", "int rateFor(int, int)", "int best(int)", "int quiet(int)", "int safe(int)",
        "int tastes(int, int, int)", "int taste(int, int, int)", "int which(int)", "int shows(int)",
        "long odds(int, int)", "int seed(int)", "int feed(int, int)", "int wipe()", "int text()", "int hold(int, int)",
        "int as(int, int)", "int sheet(int, int, int)", "int write(int, int, int)", "int copy(int, int, int, int, int)",
        "int load(int)", "int judge(int)", "int image()", "int undo()", "int tear()", "int count(int)", "int status(int)"};
    private static final String[] FORBIDDEN = {
        "\\b(throw|throws|try|catch|synchronized|assert|import|package|native|volatile|transient|goto)\\b",
        "->", "::", "@", "\\bvar\\b", "\\bObject\\b", "\\bRuntimeException\\b", "\\bException\\b", "Exact\\b",
        "\\bprotected\\b", "\\bstatic\\s*\\{", "\\bhashCode\\b", "\\btoString\\b", "\\bequals\\b", "[^\\x00-\\x7f]"};
    private static final int LONGEST_METHOD = 60;
    private static final int MOST_CLASSES = 12;
    private static final int MOST_FIELDS = 20;

    private static int wrong = 0;

    private static void fail(String what) {
        wrong++;
        System.out.println(what);
    }

    public static void main(String[] args) throws IOException {
        face();
        String source = Files.readString(Path.of(System.getProperty("project", "."), "src/main/java/LaughTax.java"));
        String code = withoutCommentsAndTexts(source);
        words(code);
        methodLengths(code);
        classes(code);
        System.out.println(wrong == 0 ? "the rules are kept" : wrong + " rules are broken");
        if (wrong != 0) {
            System.exit(1);
        }
    }

    private static void face() {
        TreeSet<String> due = new TreeSet<>(Arrays.asList(FACE));
        TreeSet<String> names = new TreeSet<>();
        for (Method m : LaughTax.class.getDeclaredMethods()) {
            if (Modifier.isPrivate(m.getModifiers()) || m.isSynthetic()) {
                continue;
            }
            names.add(m.getName());
            String told = m.getReturnType() + " " + m.getName()
                    + Arrays.toString(m.getParameterTypes()).replace('[', '(').replace(']', ')');
            if (!Modifier.isPublic(m.getModifiers()) || Modifier.isStatic(m.getModifiers()) || !due.remove(told)) {
                fail("not of the face: " + told);
            }
        }
        due.forEach(d -> fail("missing: " + d));
        Constructor<?>[] constructors = LaughTax.class.getDeclaredConstructors();
        if (constructors.length != 1 || constructors[0].getParameterCount() != 0
                || !Modifier.isPublic(constructors[0].getModifiers())) {
            fail("not just the public constructor without parameters");
        }
        if (!Modifier.isFinal(LaughTax.class.getModifiers())) {
            fail("the class isn't final");
        }
        Arrays.stream(LaughTax.class.getDeclaredFields()).filter(f -> !Modifier.isPrivate(f.getModifiers()))
                .forEach(f -> fail("a field that isn't private: " + f));
        privateNames(names);
    }

    private static void privateNames(TreeSet<String> names) {
        List<Class<?>> all = new ArrayList<>(Arrays.asList(LaughTax.class.getDeclaredClasses()));
        all.add(LaughTax.class);
        for (Class<?> c : all) {
            for (Method m : c.getDeclaredMethods()) {
                if ((c != LaughTax.class || Modifier.isPrivate(m.getModifiers())) && names.contains(m.getName())) {
                    fail("bears the name of a public one: " + m);
                }
            }
            if (c != LaughTax.class && !Modifier.isStatic(c.getModifiers())) {
                fail("an inner class that isn't static: " + c);
            }
        }
    }

    private static String withoutCommentsAndTexts(String source) {
        Matcher m = Pattern.compile("/\\*.*?\\*/|//[^\\n]*|\"[^\"\\n]*\"|'[^']'", Pattern.DOTALL).matcher(source);
        return m.replaceAll(r -> r.group().startsWith("/") ? r.group().replaceAll("[^\\n]", "") : "0");
    }

    private static void words(String code) {
        for (String word : FORBIDDEN) {
            Matcher m = Pattern.compile(word).matcher(code);
            while (m.find()) {
                fail("line " + lineOf(code, m.start()) + ": " + m.group());
            }
        }
        Matcher fields = Pattern.compile("static(?!\\s+(final|class|[a-zA-Z]+\\s+[a-zA-Z]+\\())[^;({]*[;=]").matcher(code);
        while (fields.find()) {
            fail("line " + lineOf(code, fields.start()) + ": static state");
        }
    }

    private static void methodLengths(String code) {
        Matcher m = Pattern.compile("(?m)^( +)[a-zA-Z][a-zA-Z \\[\\]]* ?[a-zA-Z]+\\(([^)]*)\\) \\{$").matcher(code);
        while (m.find()) {
            int end = code.indexOf("\n" + m.group(1) + "}", m.end());
            int lines = lineOf(code, end) - lineOf(code, m.start());
            if (lines > LONGEST_METHOD) {
                fail("line " + lineOf(code, m.start()) + ": a method of " + lines + " lines");
            }
            if (m.group(2).split(",").length > 7) {
                fail("line " + lineOf(code, m.start()) + ": more than seven parameters");
            }
        }
    }

    private static void classes(String code) {
        if (LaughTax.class.getDeclaredClasses().length + 1 > MOST_CLASSES) {
            fail("more than " + MOST_CLASSES + " classes");
        }
        for (Class<?> c : LaughTax.class.getDeclaredClasses()) {
            long fields = Arrays.stream(c.getDeclaredFields()).filter(f -> !Modifier.isStatic(f.getModifiers())).count();
            if (fields > MOST_FIELDS) {
                fail("more than " + MOST_FIELDS + " fields: " + c);
            }
        }
    }

    private static int lineOf(String code, int place) {
        int line = 1;
        for (int i = 0; i < place; i++) {
            line += code.charAt(i) == '\n' ? 1 : 0;
        }
        return line;
    }
}
