import java.io.File;
import java.io.IOException;
import java.lang.reflect.Method;
import java.lang.reflect.Modifier;
import java.nio.charset.StandardCharsets;
import java.nio.file.Files;
import java.nio.file.Path;
import java.util.ArrayList;
import java.util.List;
import java.util.stream.Stream;

/** README.md: its program is compiled and answers as it says there; all calls and all tests are named. */
public final class ReadmeTest {
    private static final Path PAGE = Path.of("README.md");
    private static final String PRINTS = "System.out.println(";

    public static void main(String[] args) throws Exception {
        String page = Files.readString(PAGE);
        program(page);
        calls(page);
        tests(page);
        Check.end("ReadmeTest");
    }

    private static void program(String page) throws Exception {
        String opening = "```java\n";
        int from = page.indexOf(opening) + opening.length();
        String source = page.substring(from, page.indexOf("```", from));
        List<String> due = due(source);
        List<String> told = run(source);
        Check.due("lines that the program prints", told.size(), due.size());
        Check.due("and there are some", due.size() > 5, true);
        for (int i = 0; i < Math.min(told.size(), due.size()); i++) {
            String what = "README.md's line " + i + " prints " + told.get(i) + ", told there is " + due.get(i) + ": as told";
            Check.due(what, told.get(i).equals(due.get(i)), true);
        }
    }

    /** What stands between // and : behind each call that is printed. */
    private static List<String> due(String source) {
        List<String> answers = new ArrayList<>();
        for (String line : source.split("\n")) {
            if (line.contains(PRINTS)) {
                String comment = line.substring(line.indexOf("// ") + 3);
                answers.add(comment.substring(0, comment.indexOf(':')));
            }
        }
        return answers;
    }

    private static List<String> run(String source) throws Exception {
        Path room = Files.createTempDirectory("tour");
        String file = Files.writeString(room.resolve("Tour.java"), source).toString();
        String classes = System.getProperty("java.class.path");
        String both = classes + File.pathSeparator + room;
        lines("javac", "-Xlint:all", "-Werror", "-cp", classes, "-d", room.toString(), file);
        List<String> told = lines("java", "-cp", both, "Tour");
        remove(room);
        return told;
    }

    private static List<String> lines(String... command) throws Exception {
        Process process = new ProcessBuilder(command).redirectError(ProcessBuilder.Redirect.INHERIT).start();
        String text = new String(process.getInputStream().readAllBytes(), StandardCharsets.UTF_8);
        Check.due(command[0] + " of README.md's program ends by", process.waitFor(), 0);
        return text.lines().toList();
    }

    private static void remove(Path room) throws IOException {
        try (Stream<Path> files = Files.list(room)) {
            for (Path file : files.toList()) {
                Files.delete(file);
            }
        }
        Files.delete(room);
    }

    private static void calls(String page) {
        for (Method method : TuneGates.class.getDeclaredMethods()) {
            if (Modifier.isPublic(method.getModifiers())) {
                Check.due(method.getName() + " is named", page.contains("`" + method.getName() + "`"), true);
            }
        }
    }

    private static void tests(String page) throws IOException {
        Check.due("how all tests are run", page.contains("\n    .ci/run\n"), true);
        try (Stream<Path> files = Files.list(Path.of("src/test/java"))) {
            for (Path file : files.toList()) {
                String name = file.getFileName().toString().replace(".java", "");
                boolean test = name.endsWith("Test");
                Check.due(name + " is named", page.contains(test ? "| " + name + " |" : "`" + name), true);
            }
        }
    }
}
