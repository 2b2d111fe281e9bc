import java.io.IOException;
import java.lang.reflect.Method;
import java.nio.file.Files;
import java.nio.file.Path;
import java.util.Arrays;
import java.util.LinkedHashMap;
import java.util.Map;

/**
 * Holds the tests of the promises against the document: what a test quotes must stand there under
 * its promise's number, and no words of a promise may be left that no test quotes.
 */
public final class DocumentTest {
    private static final Path DOCUMENT = Path.of("..", "shared", "DOC.md");

    private static final Due due = new Due();

    public static void main(String[] args) throws IOException {
        Map<String, String> sections = sections();
        for (Class<?> part : PromisesTest.PARTS) {
            due.begin(part.getSimpleName());
            String section = sections.remove(part.getSimpleName());
            due.holds("the document has this part", section != null);
            if (section != null) {
                compare(part, section);
            }
        }
        due.begin("the document");
        for (String left : sections.keySet()) {
            due.holds("there are tests for " + left, !left.startsWith("Promise"));
        }
        due.end();
    }

    /** The text under each heading, by the name of the class that tests it. */
    private static Map<String, String> sections() throws IOException {
        Map<String, String> sections = new LinkedHashMap<>();
        String name = "";
        for (String line : Files.readAllLines(DOCUMENT)) {
            if (line.startsWith("## ")) {
                name = className(line.substring(3));
                sections.put(name, "");
            } else {
                sections.computeIfPresent(name, (n, text) -> joined(text, plain(line)));
            }
        }
        return sections;
    }

    private static String className(String heading) {
        if (heading.startsWith("Promise ")) {
            int number = Integer.parseInt(heading.substring(8, heading.indexOf(':')));
            return String.format("Promise%02d", number);
        }
        return heading.equals("What it is") ? "WhatItIs" : heading;
    }

    /** Without marks of lists and of bold print; the table of constants is FaceTest's. */
    private static String plain(String line) {
        if (line.startsWith("|")) {
            return "";
        }
        return line.replaceFirst("^ *(-|[0-9]+\\.) ", "").replace("**", "").strip();
    }

    private static String joined(String text, String line) {
        return text.isEmpty() || line.isEmpty() ? text + line : text + " " + line;
    }

    private static void compare(Class<?> part, String section) {
        boolean[] quoted = new boolean[section.length()];
        for (Method test : PromisesTest.tests(part)) {
            for (String words : test.getAnnotation(Says.class).value()) {
                due.holds(test.getName() + " quotes the document: " + words, mark(section, words, quoted));
            }
        }
        due.holds("every word is quoted; left are:" + left(section, quoted), left(section, quoted).isEmpty());
    }

    private static boolean mark(String section, String words, boolean[] quoted) {
        int at = section.indexOf(words);
        boolean found = at >= 0;
        while (at >= 0) {
            Arrays.fill(quoted, at, at + words.length(), true);
            at = section.indexOf(words, at + 1);
        }
        return found;
    }

    private static String left(String section, boolean[] quoted) {
        StringBuilder left = new StringBuilder();
        for (int i = 0; i < section.length(); i++) {
            left.append(quoted[i] ? ' ' : section.charAt(i));
        }
        String text = left.toString().strip().replaceAll(" +", " ");
        return text.isEmpty() ? text : " " + text;
    }
}
