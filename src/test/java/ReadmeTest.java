import java.lang.reflect.Method;
import java.lang.reflect.Modifier;
import java.nio.file.Files;
import java.nio.file.Path;
import java.util.ArrayList;
import java.util.List;

/** README.md: what its example says is answered is answered, and it tells of every call of the face. */
public final class ReadmeTest {
    private static final Check CHECK = new Check("ReadmeTest");

    public static void main(String[] args) throws Exception {
        String readme = Files.readString(Path.of("README.md"));
        example(readme);
        textAsAtFirst(readme);
        everyCall(readme);
        everyTest(readme);
        CHECK.end();
    }

    /** The example's lines as they should stand there, with the answers that the class gives. */
    private static List<String> answered() {
        List<String> lines = new ArrayList<>();
        SaidOfHim x = new SaidOfHim();
        lines.add("SaidOfHim x = new SaidOfHim();");
        lines.add("int rule = 16 * 153 + 10;");
        int rule = 16 * 153 + 10;
        lines.add("x.feed(8, 0x6579652033203b20L); // " + x.feed(8, 0x6579652033203b20L));
        lines.add("x.read(); // " + x.read());
        lines.add("x.village(3); // " + x.village(3));
        lines.add("x.from(rule, 500, 0); // " + x.from(rule, 500, 0));
        lines.add("x.helped(rule, 960); // " + x.helped(rule, 960));
        lines.add("x.gain(rule, 0, 960); // " + x.gain(rule, 0, 960));
        lines.add("x.holds(rule); // " + x.holds(rule));
        lines.add("x.bears(rule); // " + x.bears(rule));
        lines.add("x.all(SaidOfHim.NONE); // " + x.all(SaidOfHim.NONE));
        lines.add("x.best(0); // " + x.best(0));
        lines.add("x.meet(0, 1, 0b100); // " + x.meet(0, 1, 0b100));
        lines.add("x.view(2, 0); // " + x.view(2, 0));
        lines.add("x.agreed(0); // " + x.agreed(0));
        lines.add("x.view(6, 0); // " + x.view(6, 0));
        return lines;
    }

    private static void example(String readme) {
        CHECK.about("README: the example");
        List<String> stands = new ArrayList<>();
        boolean inside = false;
        for (String line : readme.split("\n")) {
            if (line.startsWith("```")) inside = line.equals("```java");
            else if (inside) stands.add(line.replaceAll("\\s+", " ").replaceAll("(// -?\\d+):.*", "$1").trim());
        }
        CHECK.same("the example", String.join("\n", stands), String.join("\n", answered()));
    }

    /** The text that stands there (lines that are set in) tells all seven clauses, and nothing but what is so at first. */
    private static void textAsAtFirst(String readme) {
        CHECK.about("README: the text");
        StringBuilder text = new StringBuilder();
        for (String line : readme.split("\n")) {
            if (line.startsWith("    ") && line.endsWith(";")) text.append(line.trim());
        }
        SaidOfHim x = new SaidOfHim();
        String first = Check.numbers(x);
        CHECK.due("read", Check.tell(x, text.toString()), 7);
        CHECK.same("the village", Check.numbers(x), first);
    }

    private static void everyCall(String readme) {
        CHECK.about("README: how to use the class");
        for (Method m : SaidOfHim.class.getDeclaredMethods()) {
            if (!Modifier.isPublic(m.getModifiers())) continue;
            CHECK.holds("it tells of " + m.getName(), readme.contains("| `" + m.getName() + "("));
        }
    }

    private static void everyTest(String readme) {
        CHECK.about("README: how to run its tests");
        CHECK.holds("it tells of .ci/run", readme.contains("`.ci/run`"));
        String[] files = new java.io.File("src/test/java").list();
        CHECK.holds("there are tests", files != null && files.length > 0);
        if (files == null) return;
        for (String file : files) {
            if (file.endsWith("Test.java")) CHECK.holds("it tells of " + file, readme.contains("`" + file.replace(".java", "") + "`"));
        }
    }
}
