import java.io.ByteArrayOutputStream;
import java.io.IOException;
import java.io.PrintStream;
import java.nio.charset.StandardCharsets;
import java.nio.file.Files;
import java.nio.file.Path;

/** README.md: its example is Example.java as it stands, with what that prints, and it names every test. */
public final class ReadmeTest {
    private static final Checks CHECKS = new Checks("ReadmeTest");

    public static void main(String[] args) throws IOException {
        String readme = Files.readString(Path.of("README.md"));
        CHECKS.asked("README.md says how to use the class and how to run its tests");
        contains(readme, Files.readString(Path.of("src/test/java/Example.java")));
        contains(readme, printedByExample());
        contains(readme, ".ci/run");
        try (var files = Files.newDirectoryStream(Path.of("src/test/java"), "*Test.java")) {
            for (Path file : files) {
                contains(readme, "`" + file.getFileName().toString().replace(".java", "") + "`");
            }
        }
        for (var method : MessageTree.class.getDeclaredMethods()) {
            if (java.lang.reflect.Modifier.isPublic(method.getModifiers())) {
                contains(readme, "`" + method.getName() + "(");
            }
        }
        CHECKS.finish();
    }

    private static void contains(String readme, String words) {
        CHECKS.same("README.md with " + Mail.shown(words), readme.contains(words) ? 1 : 0, 1);
    }

    private static String printedByExample() {
        PrintStream out = System.out;
        ByteArrayOutputStream printed = new ByteArrayOutputStream();
        System.setOut(new PrintStream(printed, true, StandardCharsets.UTF_8));
        Example.main(new String[0]);
        System.setOut(out);
        return printed.toString(StandardCharsets.UTF_8).replace(System.lineSeparator(), "\n");
    }
}
