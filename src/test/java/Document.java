import java.io.IOException;
import java.nio.file.Files;
import java.nio.file.Path;
import java.util.ArrayList;
import java.util.LinkedHashMap;
import java.util.List;
import java.util.Map;

/**
 * DOC.md, cut into "What it is" (what it says of calls), "Terms 0" (ahead of the first group),
 * "Terms 1" to "Terms 5" and "Promise 1" to "Promise 38": so that a test's words are those of the document, and no sentence goes without a test.
 * .ci/run tells where it is (-Ddoc=..); without it every quotation is taken for a true one.
 */
final class Document {
    private final Map<String, String> sections = new LinkedHashMap<>();
    private final Map<String, boolean[]> quoted = new LinkedHashMap<>();

    static Document read() {
        Document document = new Document();
        String path = System.getProperty("doc");
        if (path != null && Files.exists(Path.of(path))) {
            try {
                document.cut(Files.readString(Path.of(path)));
            } catch (IOException e) {
                throw new IllegalStateException("no document at " + path, e);
            }
        }
        return document;
    }

    private void cut(String whole) {
        String section = "";
        for (String line : whole.split("\n")) {
            if (line.startsWith("## ")) {
                section = sectionOf(line.substring(3));
            } else if (section.startsWith("Terms") && line.startsWith("==== ")) {
                section = "Terms " + line.charAt(5);
                add(section, line.substring(6));
            } else if (section.equals("What it is") && line.startsWith("An object ")) {
                add(section, line);
            } else if (section.startsWith("Promise")) {
                add(section, line.replaceFirst("^`[^`]*`:", ""));
            } else if (section.startsWith("Terms") && !line.startsWith("Ahead of the calls") && !line.startsWith("```")) {
                add(section, line);
            }
        }
    }

    private static String sectionOf(String heading) {
        if (heading.equals("Terms")) {
            return "Terms 0";
        }
        return heading.startsWith("Promise ") ? heading.substring(0, heading.indexOf(':')) : heading;
    }

    private void add(String section, String line) {
        sections.merge(section, line, (ahead, behind) -> onOneLine(ahead + " " + behind));
        quoted.put(section, new boolean[sections.get(section).length() + 1]);
    }

    private static String onOneLine(String words) {
        return words.replaceAll("\\s+", " ").trim();
    }

    /** Whether the section has these words; they count as quoted from now on. */
    boolean quotes(String section, String words) {
        if (sections.isEmpty()) {
            return true;
        }
        String text = sections.getOrDefault(section, "");
        String sought = onOneLine(words);
        int at = text.indexOf(sought);
        if (at < 0 || sought.isEmpty()) {
            return false;
        }
        for (int i = 0; i < sought.length(); i++) {
            quoted.get(section)[at + i] = true;
        }
        return true;
    }

    /** What has a letter or a digit, and was not quoted. */
    List<String> unquoted() {
        List<String> left = new ArrayList<>();
        for (Map.Entry<String, String> section : sections.entrySet()) {
            StringBuilder words = new StringBuilder();
            for (int at = 0; at < section.getValue().length(); at++) {
                words.append(quoted.get(section.getKey())[at] ? '\n' : section.getValue().charAt(at));
            }
            for (String piece : words.toString().split("\n+")) {
                if (piece.matches(".*[A-Za-z0-9].*")) {
                    left.add(section.getKey() + ": " + piece.trim());
                }
            }
        }
        return left;
    }

    int sections() {
        return sections.size();
    }
}
