import java.io.ByteArrayOutputStream;
import java.io.IOException;
import java.io.PrintStream;
import java.lang.reflect.Method;
import java.lang.reflect.Modifier;
import java.nio.file.Files;
import java.nio.file.Path;

/** What README.md shows is so: its program is the one that was compiled, and prints what it says; it names every call. */
public final class ReadmeTest {
    private static final Checks CHECKS = new Checks();

    public static void main(String[] args) throws IOException {
        String readme = Files.readString(Path.of("README.md"));
        String program = Files.readString(Path.of("src/test/java/Example.java"));
        CHECKS.due("README.md shows Example.java", readme.contains("```java\n" + program + "```"), true);
        CHECKS.due("README.md shows what it prints", readme.contains("```text\n" + printed() + "```"), true);
        for (Method method : SectorView.class.getDeclaredMethods()) {
            if (Modifier.isPublic(method.getModifiers())) {
                CHECKS.due("README.md tells of " + method.getName(), readme.contains("`" + method.getName() + "("), true);
            }
        }
        try (var tests = Files.list(Path.of("src/test/java"))) {
            tests.map(path -> path.getFileName().toString()).filter(name -> name.endsWith("Test.java")).forEach(name -> tellsOf(readme, name));
        }
        CHECKS.end();
    }

    private static void tellsOf(String readme, String file) {
        String name = file.startsWith("EdgesOf") ? "EdgesOf..Test" : file.replace(".java", "");
        CHECKS.due("README.md tells of " + file, readme.contains("`" + name + "`"), true);
    }

    private static String printed() {
        PrintStream before = System.out;
        ByteArrayOutputStream out = new ByteArrayOutputStream();
        System.setOut(new PrintStream(out, true));
        Example.main(new String[0]);
        System.setOut(before);
        return out.toString().replace("\r\n", "\n");
    }
}
