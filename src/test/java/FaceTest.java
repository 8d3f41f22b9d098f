import java.io.IOException;
import java.lang.reflect.Member;
import java.lang.reflect.Method;
import java.lang.reflect.Modifier;
import java.nio.file.Files;
import java.nio.file.Path;
import java.util.ArrayList;
import java.util.Arrays;
import java.util.List;
import java.util.TreeSet;
import java.util.regex.Pattern;

/** The public face is the document's and no more, and the source keeps what can be seen of LANGUAGE.md from outside. */
public final class FaceTest {
    private static final Check CHECK = new Check();
    private static final Path DOCUMENT = Path.of("../shared/DOC.md");
    private static final Path SOURCE = Path.of("src/main/java/RegisterGateway.java");
    private static final List<String> OUTSIDE_THE_LANGUAGE = List.of("->", "::", "synchronized", "assert ", "finally",
            "catch", "Object ", "import java.io", "import java.util.function", "import java.util.Map", "static {",
            "Exact(", "System.out", "System.exit", "Random", "Thread", "currentTime", "nanoTime", "@SuppressWarnings",
            "protected ", ".equals(", ".hashCode(", ".toString(", "instanceof", "while (true)", "for (;;)");

    private static String signature(Method method) {
        List<String> parameters = new ArrayList<>();
        for (Class<?> type : method.getParameterTypes()) {
            parameters.add(type.getSimpleName());
        }
        List<String> thrown = new ArrayList<>();
        for (Class<?> type : method.getExceptionTypes()) {
            thrown.add(type.getSimpleName());
        }
        return method.getReturnType().getSimpleName() + " " + method.getName() + parameters + " " + thrown;
    }

    /** From a line such as "public int set(int setting, int value) throws A, B;". */
    private static String signature(String line) {
        String[] parts = line.replace("public ", "").replace(";", "").split("\\)");
        String[] head = parts[0].split("\\(");
        List<String> parameters = new ArrayList<>();
        if (head.length > 1) {
            for (String parameter : head[1].split(", ")) {
                parameters.add(parameter.split(" ")[0]);
            }
        }
        List<String> thrown = parts.length > 1 && parts[1].contains("throws")
                ? Arrays.asList(parts[1].replace(" throws ", "").split(", ")) : List.of();
        return head[0] + parameters + " " + thrown;
    }

    private static TreeSet<String> documentedMethods() throws IOException {
        TreeSet<String> due = new TreeSet<>();
        for (String line : Files.readAllLines(DOCUMENT)) {
            if (line.startsWith("    public ") && !line.contains("RegisterGateway(")) {
                due.add(signature(line.trim()));
            }
        }
        return due;
    }

    private static boolean isPrivate(Member member) {
        return Modifier.isPrivate(member.getModifiers());
    }

    private static void face() throws IOException {
        Class<?> type = RegisterGateway.class;
        TreeSet<String> got = new TreeSet<>();
        TreeSet<String> publicNames = new TreeSet<>();
        for (Method method : type.getDeclaredMethods()) {
            if (!isPrivate(method)) {
                got.add(signature(method));
                publicNames.add(method.getName());
                CHECK.due(method + " is public", Modifier.isPublic(method.getModifiers()), true);
            }
        }
        TreeSet<String> due = documentedMethods();
        CHECK.due("methods of the document", due.size(), 29);
        if (!got.equals(due)) {
            System.out.println("the face is " + got + ", due is " + due);
        }
        CHECK.due("the face is the document's", got.equals(due), true);
        CHECK.due("constructors", type.getConstructors().length, 1);
        CHECK.due("final", Modifier.isFinal(type.getModifiers()), true);
        Arrays.stream(type.getDeclaredFields()).forEach(f -> CHECK.due(f + " is private", isPrivate(f), true));
        innerNames(type, publicNames);
    }

    private static void innerNames(Class<?> type, TreeSet<String> publicNames) {
        CHECK.due("some twelve classes", type.getDeclaredClasses().length <= 11, true);
        for (Class<?> inner : type.getDeclaredClasses()) {
            CHECK.due(inner + " is static", Modifier.isStatic(inner.getModifiers()), true);
            CHECK.due(inner + " has some twenty fields", inner.getDeclaredFields().length <= 20, true);
            for (Method method : inner.getDeclaredMethods()) {
                CHECK.due(method + " has no public one's name", publicNames.contains(method.getName()), false);
            }
        }
        for (Method method : type.getDeclaredMethods()) {
            if (isPrivate(method)) {
                CHECK.due(method + " has no public one's name", publicNames.contains(method.getName()), false);
            }
        }
    }

    private static void source() throws IOException {
        String text = Files.readString(SOURCE);
        String code = Pattern.compile("/\\*.*?\\*/|//[^\\n]*|\"[^\"\\n]*\"", Pattern.DOTALL).matcher(text).replaceAll("");
        for (String word : OUTSIDE_THE_LANGUAGE) {
            CHECK.due("the source has " + word, code.contains(word), false);
        }
        CHECK.due("signs 1 to 127 alone", text.chars().allMatch(c -> c > 0 && c < 128), true);
        int longest = 0;
        int start = 0;
        List<String> lines = List.of(text.split("\n"));
        for (int i = 0; i < lines.size(); i++) {
            if (lines.get(i).matches(" +(public|private|static|int|void|boolean|long|Request|Reply)\\b.*\\) ?(throws .*)?\\{")) {
                start = i;
            }
            if (lines.get(i).matches("(    |        )}")) {
                longest = Math.max(longest, start == 0 ? 0 : i - start + 1);
                start = 0;
            }
        }
        CHECK.due("methods stay short", longest > 5 && longest <= 60, true);
    }

    public static void main(String[] args) throws IOException {
        face();
        source();
        CHECK.end("FaceTest");
    }
}
