import java.io.ByteArrayOutputStream;
import java.io.IOException;
import java.io.PrintStream;
import java.lang.reflect.Method;
import java.lang.reflect.Modifier;
import java.nio.charset.StandardCharsets;
import java.nio.file.Files;
import java.nio.file.Path;
import java.util.ArrayList;
import java.util.List;

/** README.md: its example is Example.java, whose answers are those of the class, and it names every call. */
final class ReadmeTest {
    private static final Checks CHECKS = new Checks("ReadmeTest");
    private static final String PRINTING = "System.out.println(";

    public static void main(String[] args) throws IOException {
        String readme = Files.readString(Path.of("README.md"));
        String example = Files.readString(Path.of("src/test/java/Example.java"));
        CHECKS.same("README.md has the example", readme.contains("```java\n" + example + "```\n"), true);
        CHECKS.same("the example's answers", printed().toString(), told(example).toString());
        CHECKS.same("the example has answers", told(example).size() > 10, true);
        for (Method method : LassoFinder.class.getDeclaredMethods()) {
            if (Modifier.isPublic(method.getModifiers())) {
                CHECKS.same("named: " + method.getName(), readme.contains("`" + method.getName() + "("), true);
            }
        }
        CHECKS.same("how to run the tests", readme.contains("`.ci/run`"), true);
        CHECKS.end();
    }

    /** What the example says that it prints. */
    private static List<String> told(String example) {
        List<String> all = new ArrayList<>();
        for (String line : example.split("\n")) {
            if (line.contains(PRINTING)) {
                all.add(line.substring(line.indexOf("// ") + 3));
            }
        }
        return all;
    }

    private static List<String> printed() {
        PrintStream usual = System.out;
        ByteArrayOutputStream out = new ByteArrayOutputStream();
        System.setOut(new PrintStream(out, true, StandardCharsets.UTF_8));
        Example.main(new String[0]);
        System.setOut(usual);
        return out.toString(StandardCharsets.UTF_8).lines().toList();
    }
}
