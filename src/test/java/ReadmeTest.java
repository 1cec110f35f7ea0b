import java.io.ByteArrayOutputStream;
import java.io.IOException;
import java.io.PrintStream;
import java.net.URL;
import java.net.URLClassLoader;
import java.nio.file.Files;
import java.nio.file.Path;
import java.util.List;
import java.util.regex.Matcher;
import java.util.regex.Pattern;
import java.util.stream.Stream;
import javax.tools.JavaCompiler;
import javax.tools.ToolProvider;

/** README.md: its example compiles against the class, and prints what README.md says; all tests stand in its table. */
public final class ReadmeTest {
    private static final Due due = new Due("README.md");

    public static void main(String[] args) throws Exception {
        String readme = Files.readString(Path.of("README.md"));
        List<String> examples = blocks(readme, "java");
        List<String> printed = blocks(readme, "text");
        due.is("examples", examples.size(), 1);
        due.is("what they print", printed.size(), 1);
        if (examples.size() == 1 && printed.size() == 1) {
            same(outputOf(examples.get(0)), printed.get(0));
        }
        tellsOf(readme);
        due.end();
    }

    private static List<String> blocks(String readme, String kind) {
        Matcher block = Pattern.compile("(?s)\n```" + kind + "\n(.*?)```\n").matcher(readme);
        return block.results().map(found -> found.group(1)).toList();
    }

    private static String outputOf(String example) throws Exception {
        Path folder = Files.createDirectories(Path.of("build", "readme"));
        Path source = Files.writeString(folder.resolve("Example.java"), example);
        JavaCompiler compiler = ToolProvider.getSystemJavaCompiler();
        int wrong = compiler.run(null, null, null, "-Xlint:all", "-Werror", "-d", folder.toString(),
                "src/main/java/NamesOnLetters.java", source.toString());
        due.is("compiling the example", wrong, 0);
        if (wrong != 0) {
            return "";
        }
        PrintStream before = System.out;
        ByteArrayOutputStream bytes = new ByteArrayOutputStream();
        // the class is taken as it was compiled with the example, not as it stands beside this test
        ClassLoader alone = ClassLoader.getPlatformClassLoader();
        try (URLClassLoader loader = new URLClassLoader(new URL[] {folder.toUri().toURL()}, alone)) {
            System.setOut(new PrintStream(bytes, true));
            loader.loadClass("Example").getMethod("main", String[].class).invoke(null, (Object) new String[0]);
        } finally {
            System.setOut(before);
        }
        return bytes.toString();
    }

    private static void same(String got, String want) {
        List<String> gotLines = got.lines().toList();
        List<String> wantLines = want.lines().toList();
        due.is("printed lines", gotLines.size(), wantLines.size());
        for (int k = 0; k < gotLines.size() && k < wantLines.size(); k++) {
            String both = "\"" + gotLines.get(k) + "\", not \"" + wantLines.get(k) + "\":";
            due.is(both, gotLines.get(k).equals(wantLines.get(k)), true);
        }
    }

    /** How the tests are run, and each of them by its name; no name of one that there is not. */
    private static void tellsOf(String readme) throws IOException {
        due.is("README.md tells of .ci/run", readme.contains("\n.ci/run\n"), true);
        due.is(".ci/run can be run", Files.isExecutable(Path.of(".ci/run")), true);
        try (Stream<Path> tests = Files.list(Path.of("src/test/java"))) {
            for (Path test : tests.toList()) {
                String name = test.getFileName().toString().replace(".java", "");
                due.is("README.md tells of " + name, readme.contains("`" + name + "`"), true);
            }
        }
        Matcher told = Pattern.compile("`(\\w+Test)`").matcher(readme);
        while (told.find()) {
            boolean stands = Files.exists(Path.of("src/test/java", told.group(1) + ".java"));
            due.is("there is " + told.group(1), stands, true);
        }
    }
}
