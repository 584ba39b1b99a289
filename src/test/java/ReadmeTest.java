import java.io.ByteArrayOutputStream;
import java.io.IOException;
import java.io.PrintStream;
import java.net.URL;
import java.net.URLClassLoader;
import java.nio.charset.StandardCharsets;
import java.nio.file.Files;
import java.nio.file.Path;
import java.util.List;
import java.util.regex.Matcher;
import java.util.regex.Pattern;
import java.util.stream.Stream;
import javax.tools.JavaCompiler;
import javax.tools.ToolProvider;

/** README.md: its program compiles and prints what stands there, and the files that it names are those that there are. */
public final class ReadmeTest {
    private static final Check CHECK = new Check("ReadmeTest");
    private static final Path BUILT = Path.of("build/readme");

    public static void main(String[] args) throws Exception {
        String readme = Files.readString(Path.of("README.md"));
        List<String> due = block(readme, "text").lines().toList();
        List<String> printed = run(block(readme, "java")).lines().toList();
        CHECK.due("lines that the program prints", printed.size(), due.size());
        for (int i = 0; i < Math.min(printed.size(), due.size()); i++) {
            CHECK.due("the program prints " + printed.get(i) + ", README.md " + due.get(i), printed.get(i).equals(due.get(i)), true);
        }
        files(readme);
        CHECK.finish();
    }

    /** The first block of that kind, "" if there is none. */
    private static String block(String readme, String kind) {
        Matcher found = Pattern.compile("^```" + kind + "\n(.*?)^```$", Pattern.MULTILINE | Pattern.DOTALL).matcher(readme);
        return found.find() ? found.group(1) : "";
    }

    /** What the program prints; compiled as README.md tells, with the class's own file. */
    private static String run(String program) throws Exception {
        Files.createDirectories(BUILT);
        Path file = BUILT.resolve("Example.java");
        Files.writeString(file, program);
        JavaCompiler compiler = ToolProvider.getSystemJavaCompiler();
        int exit = compiler.run(null, null, null, "-Xlint:all", "-d", BUILT.toString(), "src/main/java/BeamBoard.java", file.toString());
        CHECK.due("javac's exit code", exit, 0);
        if (exit != 0) {
            return "";
        }
        PrintStream out = System.out;
        ByteArrayOutputStream printed = new ByteArrayOutputStream();
        URL[] path = {BUILT.toUri().toURL()};
        try (URLClassLoader loader = new URLClassLoader(path, ClassLoader.getPlatformClassLoader())) {
            System.setOut(new PrintStream(printed, true, StandardCharsets.UTF_8));
            loader.loadClass("Example").getMethod("main", String[].class).invoke(null, (Object) new String[0]);
        } finally {
            System.setOut(out);
        }
        return printed.toString(StandardCharsets.UTF_8);
    }

    private static void files(String readme) throws IOException {
        try (Stream<Path> tests = Files.list(Path.of("src/test/java"))) {
            for (Path test : tests.toList()) {
                String name = test.getFileName().toString().replace(".java", "");
                CHECK.due("README.md names " + name, readme.contains("`" + name + "`"), true);
            }
        }
        Matcher named = Pattern.compile("(?<![\\w./])(src/[\\w/]+/\\w+\\.java|\\.ci/run|NOTES\\.md)").matcher(readme);
        while (named.find()) {
            CHECK.due("there is a file " + named.group(1), Files.exists(Path.of(named.group(1))), true);
        }
    }
}
