import java.io.IOException;
import java.lang.reflect.Method;
import java.lang.reflect.Modifier;
import java.nio.file.DirectoryStream;
import java.nio.file.Files;
import java.nio.file.Path;
import java.util.ArrayList;
import java.util.Comparator;
import java.util.List;
import java.util.regex.Matcher;
import java.util.regex.Pattern;
import java.util.stream.Stream;

/** README.md as a newcomer follows it: its example answers what stands beside it, its commands work. */
public final class ReadmeTest {
    private static final Path README = Path.of("README.md");
    private static final Pattern ANSWER = Pattern.compile("println\\(.*\\);\\s+// (-?\\d+)\\b");

    public static void main(String[] args) throws IOException, InterruptedException {
        String page = Files.readString(README);
        everyCallIsNamed(page);
        everyTestIsNamed(page);
        theSteps(page);
        Due.end();
    }

    private static void everyCallIsNamed(String page) {
        for (Method m : IceHouse.class.getDeclaredMethods()) {
            if (Modifier.isPublic(m.getModifiers())) {
                Due.yes("README names " + m.getName(), page.contains("`" + m.getName() + "`"));
            }
        }
    }

    private static void everyTestIsNamed(String page) throws IOException {
        try (DirectoryStream<Path> tests = Files.newDirectoryStream(Path.of("src/test/java"), "*Test.java")) {
            for (Path test : tests) {
                String name = test.getFileName().toString().replace(".java", "");
                Due.yes("README names " + name, Pattern.compile("\\b" + name + "\\b").matcher(page).find());
            }
        }
    }

    private static List<String> blocks(String page, String language) {
        List<String> found = new ArrayList<>();
        Matcher m = Pattern.compile("(?ms)^```" + language + "\n(.*?)^```$").matcher(page);
        while (m.find()) {
            found.add(m.group(1));
        }
        return found;
    }

    /** All steps are gone in a place of their own, so that nothing is left behind here. */
    private static void theSteps(String page) throws IOException, InterruptedException {
        List<String> examples = blocks(page, "java");
        List<String> steps = blocks(page, "sh");
        Due.is("examples", 1, examples.size());
        Due.is("rows of commands", 4, steps.size());
        Path place = Files.createTempDirectory("readme");
        try {
            Path here = Files.createDirectory(place.resolve("main"));
            Files.createSymbolicLink(here.resolve("src"), Path.of("src").toAbsolutePath());
            Files.createSymbolicLink(place.resolve("shared"), Path.of("../shared").toRealPath());
            Files.writeString(here.resolve("Example.java"), examples.get(0));
            for (String step : steps) {
                theStep(here, step, examples.get(0));
            }
        } finally {
            remove(place);
        }
    }

    private static void theStep(Path here, String step, String example) throws IOException, InterruptedException {
        if (step.contains(".ci/run")) {
            // It is what runs this test, so it isn't run once more from here.
            Due.is("alone in its row: " + step, 1, step.lines().toList().size());
            Due.yes(".ci/run may be run", Files.isExecutable(Path.of(step.trim())));
            return;
        }
        List<String> lines = new ArrayList<>();
        int exit = run(here, step, lines);
        Due.is(step + lines, 0, exit);
        if (step.contains("Example")) {
            theAnswers(example, lines);
        }
    }

    private static void theAnswers(String example, List<String> lines) {
        List<String> want = new ArrayList<>();
        Matcher m = ANSWER.matcher(example);
        while (m.find()) {
            want.add(m.group(1));
        }
        Due.is("each line has its answer", example.split("println", -1).length - 1, want.size());
        Due.yes("the example answers " + lines + ", the page says " + want, lines.equals(want));
    }

    private static int run(Path here, String step, List<String> lines) throws IOException, InterruptedException {
        Process p = new ProcessBuilder("sh", "-e", "-c", step).directory(here.toFile())
                .redirectErrorStream(true).start();
        p.getOutputStream().close();
        lines.addAll(new String(p.getInputStream().readAllBytes()).lines().toList());
        return p.waitFor();
    }

    private static void remove(Path place) throws IOException {
        try (Stream<Path> all = Files.walk(place)) {
            for (Path p : all.sorted(Comparator.reverseOrder()).toList()) {
                Files.delete(p);
            }
        }
    }
}
