import java.io.File;
import java.io.IOException;
import java.lang.reflect.Method;
import java.lang.reflect.Modifier;
import java.nio.file.Files;
import java.nio.file.Path;
import java.util.ArrayList;
import java.util.Comparator;
import java.util.List;
import java.util.TreeSet;
import java.util.regex.Matcher;
import java.util.regex.Pattern;
import java.util.stream.Stream;
import javax.tools.ToolProvider;

/** What README.md says of how to use the class and how to run its tests. */
public final class ReadmeTest {
    private static final Expect EXPECT = new Expect();
    private static final Path README = Path.of("README.md"), TESTS = Path.of("src/test/java");
    private static final Pattern PRINTS = Pattern.compile("System\\.out\\.println\\(.*\\);\\s*// ([^\\s:]+)(:.*)?");

    /** The blocks of a language, each line with its end. */
    private static List<String> blocks(String language) throws IOException {
        List<String> all = new ArrayList<>();
        Matcher matcher = Pattern.compile("(?ms)^```" + language + "\n(.*?)^```$").matcher(Files.readString(README));
        while (matcher.find()) {
            all.add(matcher.group(1));
        }
        return all;
    }

    /** The first words behind the lines that print. */
    private static List<String> answers(String example) {
        List<String> all = new ArrayList<>();
        for (String line : example.split("\n")) {
            Matcher matcher = PRINTS.matcher(line);
            boolean told = matcher.find();
            EXPECT.due("README.md tells what this prints: " + line, line.contains("println"), told);
            if (told) {
                all.add(matcher.group(1));
            }
        }
        return all;
    }

    /** What a program prints; its end is told by one more line. */
    private static List<String> printed(Path out, String... command) throws IOException, InterruptedException {
        File told = out.resolve("printed").toFile();
        Process process = new ProcessBuilder(command).redirectError(ProcessBuilder.Redirect.INHERIT).redirectOutput(told).start();
        int end = process.waitFor();
        List<String> lines = new ArrayList<>(Files.readAllLines(told.toPath()));
        lines.add("exit code " + end);
        return lines;
    }

    private static void example(Path out) throws IOException, InterruptedException {
        List<String> blocks = blocks("java");
        EXPECT.due("examples of use", 1, blocks.size());
        Path source = out.resolve("Example.java");
        Files.writeString(source, blocks.get(0));
        int compiled = ToolProvider.getSystemJavaCompiler().run(null, null, null, "-d", out.toString(), "src/main/java/Lineartide.java", source.toString());
        EXPECT.due("the example compiles beside the class", 0, compiled);
        List<String> want = answers(blocks.get(0));
        want.add("exit code 0");
        String java = Path.of(System.getProperty("java.home"), "bin", "java").toString();
        List<String> got = printed(out, java, "-cp", out.toString(), "Example");
        EXPECT.due("answers of the example", want.size(), got.size());
        for (int i = 0; i < want.size() && i < got.size(); i++) {
            EXPECT.due("answer " + i + " of the example, " + want.get(i) + " as README.md says, " + got.get(i) + " as it is", true, want.get(i).equals(got.get(i)));
        }
    }

    /** The command for all tests is the one that runs this; the one for a single test is tried in another directory. */
    private static void commands(Path out) throws IOException, InterruptedException {
        List<String> blocks = blocks("sh");
        EXPECT.due("commands", 2, blocks.size());
        EXPECT.due("the command for all tests", true, blocks.get(0).equals(".ci/run\n") && Files.isExecutable(Path.of(".ci/run")));
        String single = blocks.get(1).trim();
        EXPECT.due("the command for a single test builds into out", true, single.contains("-d out ") && single.contains("-cp out "));
        String elsewhere = single.replace("-d out ", "-d '" + out + "' ").replace("-cp out ", "-cp '" + out + "' ");
        List<String> got = printed(out, "sh", "-c", elsewhere);
        EXPECT.due("the command for a single test ends well, with " + got, true, got.get(got.size() - 1).equals("exit code 0"));
        EXPECT.due("the single test says that all is well, with " + got, true, got.size() == 2 && got.get(0).matches("all \\d+ answers are as due"));
    }

    private static void names() throws IOException {
        String text = Files.readString(README);
        TreeSet<String> tests = new TreeSet<>();
        try (Stream<Path> files = Files.list(TESTS)) {
            files.map(f -> f.getFileName().toString()).filter(f -> f.endsWith("Test.java")).forEach(f -> tests.add(f.replace(".java", "")));
        }
        Matcher rows = Pattern.compile("(?m)^\\| `(\\w+Test)` \\|").matcher(text);
        TreeSet<String> told = new TreeSet<>();
        while (rows.find()) {
            told.add(rows.group(1));
        }
        EXPECT.due("README.md names " + told + ", there are " + tests, true, told.equals(tests));
        for (Method method : Lineartide.class.getDeclaredMethods()) {
            boolean face = Modifier.isPublic(method.getModifiers());
            EXPECT.due("README.md names " + method.getName(), true, !face || text.contains("`" + method.getName() + "`"));
        }
    }

    public static void main(String[] args) throws Exception {
        Path out = Files.createTempDirectory("readme");
        try {
            example(out);
            commands(out);
            names();
        } finally {
            try (Stream<Path> files = Files.walk(out)) {
                files.sorted(Comparator.reverseOrder()).forEach(f -> f.toFile().delete());
            }
        }
        EXPECT.end();
    }
}
