import java.io.ByteArrayOutputStream;
import java.io.IOException;
import java.io.PrintStream;
import java.net.URL;
import java.net.URLClassLoader;
import java.nio.charset.StandardCharsets;
import java.nio.file.Files;
import java.nio.file.Path;
import javax.tools.ToolProvider;

/** Compiles the program in README.md and runs it: it prints what README.md says, and the tests named there are there. */
public final class ReadmeTest {
    private static final Path README = Path.of("README.md");
    private static final Path TESTS = Path.of("src/test/java");

    private ReadmeTest() {
    }

    public static void main(String[] args) throws IOException, ReflectiveOperationException {
        String readme = Files.readString(README, StandardCharsets.UTF_8);
        Check.sameText("the program in README.md", printed(block(readme, "java")), block(readme, "text"));
        names(readme);
        Check.finish("ReadmeTest");
    }

    /** What stands between ```kind and ```. */
    private static String block(String readme, String kind) {
        String mark = "\n```" + kind + "\n";
        int from = readme.indexOf(mark) + mark.length();
        int to = readme.indexOf("```\n", from);
        Check.same("a block of " + kind, readme.contains(mark) && to >= 0 ? 1 : 0, 1);
        return to < 0 ? "" : readme.substring(from, to);
    }

    private static String printed(String program) throws IOException, ReflectiveOperationException {
        Path folder = Files.createTempDirectory("readme");
        Path source = folder.resolve("Example.java");
        ByteArrayOutputStream printed = new ByteArrayOutputStream();
        PrintStream former = System.out;
        try (URLClassLoader loader = new URLClassLoader(new URL[] {folder.toUri().toURL()})) {
            Files.writeString(source, program, StandardCharsets.UTF_8);
            int failed = ToolProvider.getSystemJavaCompiler().run(null, null, null, "-Xlint:all", "-Werror", "-d",
                    folder.toString(), "-cp", System.getProperty("java.class.path"), source.toString());
            Check.same("errors when the program in README.md is compiled", failed, 0);
            System.setOut(new PrintStream(printed, true, StandardCharsets.UTF_8));
            loader.loadClass("Example").getMethod("main", String[].class).invoke(null, (Object) new String[0]);
        } finally {
            System.setOut(former);
            Files.deleteIfExists(folder.resolve("Example.class"));
            Files.deleteIfExists(source);
            Files.deleteIfExists(folder);
        }
        return printed.toString(StandardCharsets.UTF_8).replace("\r\n", "\n");
    }

    /** Every test is named, and no other one is: between two with "to" stand those that README.md does not write out. */
    private static void names(String readme) throws IOException {
        for (String word : readme.split("[^A-Za-z0-9]+")) {
            if (word.endsWith("Test") && word.length() > 4) {
                Check.same("a test named " + word, Files.exists(TESTS.resolve(word + ".java")) ? 1 : 0, 1);
            }
        }
        try (var files = Files.newDirectoryStream(TESTS, "*Test.java")) {
            for (Path file : files) {
                String name = file.getFileName().toString().replace(".java", "");
                boolean named = readme.contains("`" + name + "`") || name.matches("Section.Test|Promises..To..Test");
                Check.same(name + " is named in README.md", named ? 1 : 0, 1);
            }
        }
    }
}
