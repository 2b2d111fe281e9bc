import java.io.ByteArrayOutputStream;
import java.io.IOException;
import java.io.PrintStream;
import java.lang.reflect.Field;
import java.lang.reflect.Method;
import java.lang.reflect.Modifier;
import java.nio.file.Files;
import java.nio.file.Path;

/** The example of README.md does what is said there, and the page names the whole public face. */
public final class ReadmeTest {
    private static final Path README = Path.of("README.md");
    private static final Path THIS_FILE = Path.of("src", "test", "java", "ReadmeTest.java");

    private static final Due due = new Due();

    public static void main(String[] args) throws IOException {
        String readme = Files.readString(README);
        exampleIsTheOneOfReadme(readme);
        examplePrintsWhatReadmeSays(readme);
        everyPublicNameIsTold(readme);
        due.end();
    }

    // The example is compiled here and shown there, so the two must not drift apart.
    private static void exampleIsTheOneOfReadme(String readme) throws IOException {
        String here = between(Files.readString(THIS_FILE), "    private static void example() {\n", "\n    }\n");
        String there = between(readme, "```java\n", "\n```\n");
        due.holds("README.md has an example", !there.isEmpty());
        due.holds("the example of README.md is the one run here", there.equals(here.indent(-8).stripTrailing()));
    }

    private static void examplePrintsWhatReadmeSays(String readme) {
        String said = between(readme, "```text\n", "```\n");
        String printed = printedByExample();
        due.holds("the example prints\n" + said + "but\n" + printed, printed.equals(said));
    }

    private static String printedByExample() {
        PrintStream before = System.out;
        ByteArrayOutputStream bytes = new ByteArrayOutputStream();
        System.setOut(new PrintStream(bytes, true));
        example();
        System.setOut(before);
        return bytes.toString().replace(System.lineSeparator(), "\n");
    }

    private static void example() {
        PolyphaseSort sort = new PolyphaseSort(3, 2, 64);    // tapes, workspace cells, capacity
        sort.put(30, 1);                                     // key, value
        sort.put(10, 2);
        sort.put(20, 3);
        sort.put(10, 4);

        int answer = sort.finish();                          // DONE if there is nothing to merge
        while (answer != PolyphaseSort.DONE) {
            answer = sort.mergePhase();                      // or mergeOne(), a run at a time
        }

        while (sort.read() == PolyphaseSort.OK) {
            int key = sort.current(PolyphaseSort.KEY);
            int value = sort.current(PolyphaseSort.VALUE);
            System.out.println(key + " " + value);
        }
    }

    private static void everyPublicNameIsTold(String readme) {
        for (Method method : PolyphaseSort.class.getDeclaredMethods()) {
            if (Modifier.isPublic(method.getModifiers())) {
                due.holds("README.md tells of " + method.getName(), readme.contains("| `" + method.getName() + "("));
            }
        }
        for (Field field : PolyphaseSort.class.getDeclaredFields()) {
            if (Modifier.isPublic(field.getModifiers())) {
                due.holds("README.md tells of " + field.getName(), readme.contains("`" + field.getName() + "`"));
            }
        }
    }

    /** The text after the first of one mark and before the next of the other; empty without them. */
    private static String between(String text, String from, String to) {
        int start = text.indexOf(from);
        int end = start < 0 ? -1 : text.indexOf(to, start + from.length());
        return end < 0 ? "" : text.substring(start + from.length(), end);
    }
}
