import java.io.File;
import java.io.IOException;
import java.nio.charset.StandardCharsets;
import java.nio.file.Files;
import java.nio.file.Path;
import java.util.ArrayList;
import java.util.List;

/** The example in README.md compiles with the class, by the very commands told there, and answers as told. */
public final class ReadmeTest {
    private static final String CLASS_FILE = "src/main/java/PendulumHall.java";
    private static final String COMPILE = "javac -d out " + CLASS_FILE + " Example.java";
    private static final String RUN = "java -cp out Example";

    private ReadmeTest() {
    }

    public static void main(String[] args) throws IOException, InterruptedException {
        List<String> page = Files.readAllLines(Path.of("README.md"), StandardCharsets.UTF_8);
        Path room = Files.createTempDirectory("readme");
        try {
            exampleAnswersAsTold(page, room);
        } finally {
            remove(room.toFile());
        }
        Check.end();
    }

    private static void exampleAnswersAsTold(List<String> page, Path room)
            throws IOException, InterruptedException {
        List<String> commands = firstBlock(page, "sh");
        Check.due("README.md tells " + COMPILE, commands.contains(COMPILE), true);
        Check.due("README.md tells " + RUN, commands.contains(RUN), true);
        copyClassInto(room);
        Files.write(room.resolve("Example.java"), firstBlock(page, "java"), StandardCharsets.UTF_8);
        List<String> answers = new ArrayList<>();
        Check.due("the example's exit code of javac", run(room, COMPILE, answers), 0);
        Check.due("the example's exit code", run(room, RUN, answers), 0);
        compare(answers, firstBlock(page, "text"));
    }

    /** The lines of the first block that is fenced as of this kind; none if there is no such block. */
    private static List<String> firstBlock(List<String> page, String kind) {
        List<String> block = new ArrayList<>();
        int start = page.indexOf("```" + kind);
        Check.due("README.md has a block of " + kind, start >= 0, true);
        for (int line = start + 1; start >= 0 && line < page.size(); line++) {
            if (page.get(line).equals("```")) {
                return block;
            }
            block.add(page.get(line));
        }
        return block;
    }

    private static void copyClassInto(Path room) throws IOException {
        Path copy = room.resolve(CLASS_FILE);
        Files.createDirectories(copy.getParent());
        Files.copy(Path.of(CLASS_FILE), copy);
    }

    /** What a machine says of itself goes to the error stream, so that is no answer. */
    private static int run(Path room, String command, List<String> told) throws IOException, InterruptedException {
        Process process = new ProcessBuilder(command.split(" "))
                .directory(room.toFile()).redirectError(ProcessBuilder.Redirect.INHERIT).start();
        String all = new String(process.getInputStream().readAllBytes(), StandardCharsets.UTF_8);
        all.lines().forEach(told::add);
        return process.waitFor();
    }

    private static void compare(List<String> answers, List<String> told) {
        Check.due("the example's lines", answers.size(), told.size());
        Check.due("README.md tells some of them", told.isEmpty(), false);
        for (int line = 0; line < Math.min(answers.size(), told.size()); line++) {
            boolean isTold = answers.get(line).equals(told.get(line));
            Check.due("the example's \"" + answers.get(line) + "\", told as \"" + told.get(line) + "\",", isTold, true);
        }
    }

    private static void remove(File place) {
        File[] inside = place.listFiles();
        if (inside != null) {
            for (File file : inside) {
                remove(file);
            }
        }
        place.delete();
    }
}
