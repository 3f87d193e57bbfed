import java.lang.reflect.Method;
import java.lang.reflect.Modifier;
import java.net.URL;
import java.net.URLClassLoader;
import java.nio.file.Files;
import java.nio.file.Path;
import java.util.ArrayList;
import java.util.List;
import java.util.TreeSet;
import java.util.regex.Matcher;
import java.util.regex.Pattern;
import java.util.stream.Stream;
import javax.tools.ToolProvider;

/**
 * What README.md says is so when it is tried: its calls are made and answer what stands behind them, and
 * it names every call, refusal and test that there is. .ci/run tells where it is (-Dproject=..).
 */
public final class ReadmeTest {
    private static final Path PROJECT = Path.of(System.getProperty("project", "."));
    private static final Pattern CALL = Pattern.compile("(hearth\\..*\\)); +// (-?\\d+|[A-Z]+)\\b.*");
    private static final Checks CHECKS = new Checks();

    public static void main(String[] args) throws Exception {
        String readme = Files.readString(PROJECT.resolve("README.md"));
        theCalls(readme);
        theCallsNamed(section(readme, "What a call answers"));
        theRefusals(section(readme, "What a refusal is"));
        theTests(section(readme, "How to run the tests"));
        CHECKS.end();
    }

    private static void same(String what, Object got, Object want) {
        CHECKS.due(what + " are " + got + ", due are " + want + ": same", got.equals(want) ? 1 : 0, 1);
    }

    private static String section(String readme, String heading) {
        int from = readme.indexOf("\n## " + heading + "\n");
        CHECKS.due("there is " + heading, from < 0 ? 0 : 1, 1);
        int to = readme.indexOf("\n## ", from + 1);
        return readme.substring(Math.max(from, 0), to < 0 ? readme.length() : to);
    }

    private static List<String> all(String regex, String text) {
        return Pattern.compile(regex).matcher(text).results().map(found -> found.group(1)).toList();
    }

    private static TreeSet<String> callsOfTheFace() {
        TreeSet<String> names = new TreeSet<>();
        for (Method method : CharcoalFromAHearth.class.getDeclaredMethods()) {
            if (Modifier.isPublic(method.getModifiers())) {
                names.add(method.getName());
            }
        }
        return names;
    }

    /** Writes a program of the page's Java blocks, in which each call is followed by what the page says of it. */
    private static void theCalls(String readme) throws Exception {
        StringBuilder program = new StringBuilder();
        for (String block : all("(?s)```java\n(.*?)```", readme)) {
            for (String line : block.split("\n")) {
                Matcher call = CALL.matcher(line);
                boolean isCall = call.matches();
                CHECKS.due("an answer stands behind " + line, line.startsWith("hearth.") == isCall ? 1 : 0, 1);
                program.append(isCall ? asked(call.group(1), call.group(2)) : line).append('\n');
            }
        }
        for (long[] answer : answersOf(program.toString())) {
            CHECKS.due("call " + answer[0] + " of the page", answer[1], answer[2]);
        }
    }

    private static String asked(String call, String want) {
        String due = Character.isLetter(want.charAt(0)) ? "CharcoalFromAHearth." + want : want;
        return "answers.add(new long[] {answers.size() + 1, " + call + ", " + due + "});";
    }

    @SuppressWarnings("unchecked")
    private static List<long[]> answersOf(String program) throws Exception {
        Path place = Files.createTempDirectory("readme");
        Path source = place.resolve("Page.java");
        Files.writeString(source, "public class Page {\n"
            + "public static java.util.List<long[]> answers() {\n"
            + "java.util.List<long[]> answers = new java.util.ArrayList<>();\n"
            + program + "return answers;\n}\n}\n");
        int exit = ToolProvider.getSystemJavaCompiler().run(null, null, null,
            "-cp", System.getProperty("java.class.path"), "-d", place.toString(), source.toString());
        CHECKS.due("the page's calls compile", exit, 0);
        List<long[]> answers = new ArrayList<>();
        if (exit == 0) {
            try (URLClassLoader loader = new URLClassLoader(new URL[] {place.toUri().toURL()})) {
                answers = (List<long[]>) loader.loadClass("Page").getMethod("answers").invoke(null);
            }
        }
        Files.deleteIfExists(place.resolve("Page.class"));
        Files.delete(source);
        Files.delete(place);
        return answers;
    }

    /** The first list names those that change something, the second one all others. */
    private static void theCallsNamed(String section) {
        int first = section.indexOf("- **Calls that change something**");
        int others = section.indexOf("- **All other calls**");
        int behind = section.indexOf("- **Fractions**");
        boolean stand = first >= 0 && others > first && behind > others;
        CHECKS.due("both lists stand", stand ? 1 : 0, 1);
        if (!stand) {
            return;
        }
        List<String> changing = all("`([a-zA-Z]+)`", section.substring(first, others));
        List<String> asking = all("`([a-zA-Z]+)`", section.substring(others, behind));
        List<String> both = new ArrayList<>(changing);
        both.addAll(asking);
        same("calls of the page", new TreeSet<>(both), callsOfTheFace());
        CHECKS.due("each is named once", both.size(), callsOfTheFace().size());
    }

    private static void theRefusals(String section) {
        same("refusals", all("(?m)^\\| (`[A-Z]+` \\| -\\d) \\|", section), List.of(
            "`UNKNOWN` | " + CharcoalFromAHearth.UNKNOWN, "`OUTSIDE` | " + CharcoalFromAHearth.OUTSIDE,
            "`STATE` | " + CharcoalFromAHearth.STATE, "`FULL` | " + CharcoalFromAHearth.FULL));
    }

    private static void theTests(String section) throws Exception {
        TreeSet<String> there = new TreeSet<>();
        try (Stream<Path> files = Files.list(PROJECT.resolve("src/test/java"))) {
            files.map(file -> file.getFileName().toString()).filter(name -> name.endsWith("Test.java"))
                .forEach(name -> there.add(name.replace(".java", "")));
        }
        same("tests", new TreeSet<>(all("(?m)^\\| `([A-Za-z]+)` \\|", section)), there);
    }
}
