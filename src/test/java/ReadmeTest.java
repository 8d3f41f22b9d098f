import java.io.IOException;
import java.io.InputStream;
import java.nio.charset.StandardCharsets;
import java.nio.file.DirectoryStream;
import java.nio.file.Files;
import java.nio.file.Path;
import java.util.ArrayList;
import java.util.List;
import java.util.TreeSet;
import java.util.regex.Matcher;
import java.util.regex.Pattern;

/**
 * What README.md says holds: its example compiles with the class and prints what its comments say, its
 * commands to run the tests are those of .ci/run, and its table names all tests.
 */
public final class ReadmeTest {
    private static final Check CHECK = new Check();
    private static final Path README = Path.of("README.md");
    private static final Path SCRIPT = Path.of(".ci/run");
    private static final Path TESTS = Path.of("src/test/java");
    private static final Path CLASS = Path.of("src/main/java/RegisterGateway.java");
    private static final Pattern PRINTED = Pattern.compile("System\\.out\\.println\\(.*\\); +// (-?\\w+)\\b.*");
    private static final Pattern COMMAND = Pattern.compile("(^|[ ;&|(])javac? .*");
    private static final Pattern ROW = Pattern.compile("\\| (\\w+Test) \\| .+ \\|");

    /** The lines of the only block of a language, as in ```java. */
    private static List<String> block(String language) throws IOException {
        List<String> found = new ArrayList<>();
        boolean inside = false;
        int blocks = 0;
        for (String line : Files.readAllLines(README)) {
            if (line.equals("```" + language)) {
                inside = true;
                blocks++;
            } else if (line.startsWith("```")) {
                inside = false;
            } else if (inside) {
                found.add(line);
            }
        }
        CHECK.due("blocks of " + language, blocks, 1);
        return found;
    }

    /** What a program of this Java prints, its errors too; null if its exit code is not 0. */
    private static String run(String program, String... arguments) throws IOException {
        List<String> command = new ArrayList<>(List.of(arguments));
        command.add(0, Path.of(System.getProperty("java.home"), "bin", program).toString());
        Process process = new ProcessBuilder(command).redirectErrorStream(true).start();
        String text;
        try (InputStream out = process.getInputStream()) {
            text = new String(out.readAllBytes(), StandardCharsets.UTF_8);
        }
        try {
            if (process.waitFor() == 0) {
                return text;
            }
        } catch (InterruptedException e) {
            throw new IllegalStateException(e);
        }
        System.out.println(text);
        return null;
    }

    private static void deleteAll(Path directory) throws IOException {
        try (DirectoryStream<Path> files = Files.newDirectoryStream(directory)) {
            for (Path file : files) {
                Files.delete(file);
            }
        }
        Files.delete(directory);
    }

    private static String outputOf(List<String> program) throws IOException {
        Path directory = Files.createTempDirectory("readme");
        try {
            Path source = directory.resolve("Example.java");
            Files.write(source, program);
            String compiled = run("javac", "-Xlint:all", "-Werror", "-d", directory.toString(), CLASS.toString(),
                    source.toString());
            return compiled == null ? null : run("java", "-cp", directory.toString(), "Example");
        } finally {
            deleteAll(directory);
        }
    }

    private static void exampleAnswersAsItSays() throws IOException {
        List<String> program = block("java");
        List<String> due = new ArrayList<>();
        for (String line : program) {
            if (line.contains("println")) {
                Matcher printed = PRINTED.matcher(line.trim());
                CHECK.due("a comment says what is printed: " + line.trim(), printed.matches(), true);
                due.add(printed.matches() ? printed.group(1) : "");
            }
        }
        CHECK.due("the example prints something", due.size() > 10, true);
        String output = outputOf(program);
        CHECK.due("the example compiles and runs", output != null, true);
        List<String> got = output == null ? List.of() : output.lines().toList();
        CHECK.due("lines that are printed", got.size(), due.size());
        for (int i = 0; i < Math.min(got.size(), due.size()); i++) {
            if (!got.get(i).equals(due.get(i))) {
                System.out.println("line " + (i + 1) + " is " + got.get(i) + ", README.md says " + due.get(i));
            }
            CHECK.due("line " + (i + 1) + " is as README.md says", got.get(i).equals(due.get(i)), true);
        }
    }

    private static boolean isComment(String line) {
        return line.trim().startsWith("#");
    }

    /** README.md's lines stand in the script, in their order, and the script has no javac or java besides. */
    private static void commandsAreTheScripts() throws IOException {
        List<String> said = new ArrayList<>(block("sh"));
        said.replaceAll(String::trim);
        List<String> followed = new ArrayList<>(Files.readAllLines(SCRIPT));
        followed.removeIf(ReadmeTest::isComment);
        int at = 0;
        int commands = 0;
        for (String line : said) {
            int found = at;
            while (found < followed.size() && !followed.get(found).contains(line)) {
                found++;
            }
            CHECK.due(".ci/run has, in this order: " + line, found < followed.size(), true);
            at = found < followed.size() ? found + 1 : at;
            commands += COMMAND.matcher(line).find() ? 1 : 0;
        }
        CHECK.due("commands of README.md", commands, 5);
        for (String line : followed) {
            if (COMMAND.matcher(line).find()) {
                CHECK.due("README.md has the command of: " + line.trim(),
                        said.stream().anyMatch(s -> COMMAND.matcher(s).find() && line.contains(s)), true);
            }
        }
        CHECK.due("README.md names the script", Files.readAllLines(README).contains("    " + SCRIPT), true);
        CHECK.due("the script can be executed", Files.isExecutable(SCRIPT), true);
    }

    private static void tableNamesAllTests() throws IOException {
        TreeSet<String> said = new TreeSet<>();
        for (String line : Files.readAllLines(README)) {
            Matcher row = ROW.matcher(line);
            if (row.matches()) {
                CHECK.due("one row for " + row.group(1), said.add(row.group(1)), true);
            }
        }
        TreeSet<String> there = new TreeSet<>();
        try (DirectoryStream<Path> files = Files.newDirectoryStream(TESTS, "*Test.java")) {
            for (Path file : files) {
                there.add(file.getFileName().toString().replace(".java", ""));
            }
        }
        if (!said.equals(there)) {
            System.out.println("README.md has the tests " + said + ", there are " + there);
        }
        CHECK.due("README.md's table has all tests and no others", said.equals(there), true);
    }

    public static void main(String[] args) throws IOException {
        exampleAnswersAsItSays();
        commandsAreTheScripts();
        tableNamesAllTests();
        CHECK.end("ReadmeTest");
    }
}
