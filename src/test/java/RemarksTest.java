import java.io.IOException;
import java.nio.file.DirectoryStream;
import java.nio.file.Files;
import java.nio.file.Path;
import java.util.ArrayList;
import java.util.List;
import java.util.Map;
import java.util.TreeMap;
import java.util.regex.Matcher;
import java.util.regex.Pattern;

/**
 * The remarks of the tests: each sentence that one of them names stands in that chapter of the document,
 * and a test names, whole or in part, each sentence of the chapters "What it is" and "Description" and
 * of the promises, whose lines for parameters and exceptions count as sentences.
 */
public final class RemarksTest {
    private static final Check CHECK = new Check();
    private static final Path DOCUMENT = Path.of("../shared/DOC.md");
    private static final Path TESTS = Path.of("src/test/java");
    private static final Pattern REMARK =
            Pattern.compile("(Promise \\d+|Description, [A-Za-z ]+|What it is): \"([^\"]+)\"");
    private static final Pattern TEST = Pattern.compile("private static void (\\w+)\\(\\)");
    private static final Pattern RUNS_ALL = Pattern.compile("CHECK\\.runAll\\(\\w+\\.class\\)");
    private static final Pattern SIGNATURE = Pattern.compile("(\\w+ )?\\w+\\([^)]*\\)( throws .*)?");
    private static final List<String> PARAGRAPHS = List.of("Devices", "Frames", "Requests", "Cache",
            "A step of the gateway", "Trying a frame", "Listener", "Exceptions");
    /** Sentences that say only what a name means or what follows. */
    private static final List<String> WITHOUT_A_CASE = List.of("The data are:", "The frame is tried as described below.",
            "The constructor and the methods follow");

    private static String plain(String text) {
        return text.replace("`", "").replaceAll("\\s+", " ").trim();
    }

    /** The lines of each chapter; those of "Description" by its paragraphs. */
    private static Map<String, List<String>> chapters() throws IOException {
        Map<String, List<String>> chapters = new TreeMap<>();
        String chapter = "";
        for (String line : Files.readAllLines(DOCUMENT)) {
            String text = plain(line.startsWith("- ") ? line.substring(2) : line);
            if (line.startsWith("## ")) {
                chapter = line.replaceFirst("^## (Promise \\d+|[^:]*).*", "$1");
            } else if (chapter.startsWith("Description")) {
                for (String paragraph : PARAGRAPHS) {
                    if (text.startsWith(paragraph)) {
                        chapter = "Description, " + paragraph;
                        text = text.startsWith(paragraph + ". ") ? text.substring(paragraph.length() + 2) : text;
                        break;
                    }
                }
            }
            if (!text.isEmpty() && !line.startsWith("#")) {
                chapters.computeIfAbsent(chapter, c -> new ArrayList<>()).add(text);
            }
        }
        return chapters;
    }

    /** The sentences that the tests name, by chapter. */
    private static Map<String, List<String>> remarks() throws IOException {
        Map<String, List<String>> remarks = new TreeMap<>();
        try (DirectoryStream<Path> files = Files.newDirectoryStream(TESTS, "*Test.java")) {
            for (Path file : files) {
                String text = Files.readString(file).replaceAll("\\n\\s*\\* ?", " ");
                Matcher matcher = REMARK.matcher(plain(text));
                while (matcher.find()) {
                    remarks.computeIfAbsent(matcher.group(1), c -> new ArrayList<>()).add(plain(matcher.group(2)));
                }
            }
        }
        return remarks;
    }

    private static void remarksAreTheDocuments(Map<String, List<String>> chapters, Map<String, List<String>> remarks) {
        remarks.forEach((chapter, quotes) -> {
            String text = String.join(" ", chapters.getOrDefault(chapter, List.of()));
            for (String quote : quotes) {
                CHECK.due(chapter + " has \"" + quote + "\"", text.contains(quote), true);
            }
        });
    }

    /** A test that Check.runAll finds has a remark right before it. */
    private static void testsHaveRemarks() throws IOException {
        try (DirectoryStream<Path> files = Files.newDirectoryStream(TESTS, "*Test.java")) {
            for (Path file : files) {
                String text = Files.readString(file);
                if (RUNS_ALL.matcher(text).find()) {
                    Matcher test = TEST.matcher(text);
                    while (test.find()) {
                        String before = text.substring(text.lastIndexOf("}\n", test.start()) + 1, test.start());
                        CHECK.due(file.getFileName() + ", " + test.group(1) + " has a remark",
                                REMARK.matcher(before).find(), true);
                    }
                }
            }
        }
    }

    /** FaceTest holds the signatures; a line of dashes only begins a part of the class. */
    private static boolean isSignatureOrHeading(String line) {
        return SIGNATURE.matcher(line).matches() || line.startsWith("---- ");
    }

    private static List<String> sentences(List<String> lines) {
        List<String> sentences = new ArrayList<>();
        for (String line : lines) {
            if (!isSignatureOrHeading(line)) {
                sentences.addAll(List.of(line.split("(?<=\\.) ")));
            }
        }
        sentences.removeIf(s -> WITHOUT_A_CASE.stream().anyMatch(s::startsWith));
        return sentences;
    }

    private static void sentencesHaveTests(Map<String, List<String>> chapters, Map<String, List<String>> remarks) {
        chapters.forEach((chapter, lines) -> {
            if (chapter.startsWith("Promise") || chapter.startsWith("Description") || chapter.equals("What it is")) {
                List<String> quotes = remarks.getOrDefault(chapter, List.of());
                CHECK.due(chapter + " has a test", quotes.isEmpty(), false);
                for (String sentence : sentences(lines)) {
                    boolean named = quotes.stream().anyMatch(q -> sentence.contains(q) || q.contains(sentence));
                    CHECK.due("a test for " + chapter + ": \"" + sentence + "\"", named, true);
                }
            }
        });
    }

    public static void main(String[] args) throws IOException {
        Map<String, List<String>> chapters = chapters();
        Map<String, List<String>> remarks = remarks();
        CHECK.due("promises", chapters.keySet().stream().filter(c -> c.startsWith("Promise")).count(), 30);
        CHECK.due("paragraphs", chapters.keySet().stream().filter(c -> c.startsWith("Description, ")).count(), PARAGRAPHS.size());
        testsHaveRemarks();
        remarksAreTheDocuments(chapters, remarks);
        sentencesHaveTests(chapters, remarks);
        CHECK.end("RemarksTest");
    }
}
