import java.io.IOException;
import java.lang.reflect.Method;
import java.lang.reflect.Modifier;
import java.nio.file.Files;
import java.nio.file.Path;
import java.util.ArrayList;
import java.util.Comparator;
import java.util.List;
import java.util.Set;
import java.util.TreeSet;
import java.util.concurrent.TimeUnit;
import java.util.regex.Matcher;
import java.util.regex.Pattern;
import java.util.stream.Stream;

/** Does what README.md says as it stands there, in a copy of the checkout, and compares what it says comes of it. */
public final class ReadmeTest {
    private static final Path README = Path.of("README.md");

    /** What stands between the fences of a kind, block by block. */
    private static List<String> blocks(String readme, String kind) {
        return groups("(?ms)^```" + kind + "\n(.*?)^```$", readme);
    }

    private static List<String> groups(String pattern, String text) {
        List<String> all = new ArrayList<>();
        Matcher matcher = Pattern.compile(pattern).matcher(text);
        while (matcher.find()) {
            all.add(matcher.group(1));
        }
        return all;
    }

    private static Path copyOfTheCheckout() throws IOException {
        Path copy = Files.createTempDirectory("readme");
        try (Stream<Path> paths = Files.walk(Path.of("src"))) {
            for (Path path : paths.toList()) {
                Files.createDirectories(copy.resolve(path).getParent());
                Files.copy(path, copy.resolve(path));
            }
        }
        return copy;
    }

    private static void remove(Path directory) throws IOException {
        try (Stream<Path> paths = Files.walk(directory)) {
            for (Path path : paths.sorted(Comparator.reverseOrder()).toList()) {
                Files.delete(path);
            }
        }
    }

    /** What the commands print; how they end is told behind it if they don't end well. */
    private static String printed(String commands, Path where) throws IOException, InterruptedException {
        Process process = new ProcessBuilder("sh", "-e", "-c", commands).directory(where.toFile())
            .redirectErrorStream(true).start();
        String printed = new String(process.getInputStream().readAllBytes());
        process.waitFor(1, TimeUnit.MINUTES);
        return process.exitValue() == 0 ? printed : printed + "exit code " + process.exitValue();
    }

    private static void example(String readme) throws IOException, InterruptedException {
        List<String> programs = blocks(readme, "java");
        List<String> commands = blocks(readme, "sh");
        List<String> due = blocks(readme, "text");
        Desk.same("programs", programs.size(), 1);
        Desk.same("rows of commands: the example, all tests, one test", commands.size(), 3);
        Desk.same("what is printed", due.size(), 1);
        if (programs.size() != 1 || commands.size() != 3 || due.size() != 1) {
            return;
        }
        Path copy = copyOfTheCheckout();
        Files.writeString(copy.resolve("Example.java"), programs.get(0));
        Desk.same("the example prints", printed(commands.get(0), copy), due.get(0));
        Desk.same("the command for all tests", commands.get(1), ".ci/run\n");
        Desk.same(".ci/run can be run", Files.isExecutable(Path.of(".ci/run")), true);
        String one = printed(commands.get(2), copy);
        Desk.same("one test alone prints", one.matches("\\d+ answers are as due\n") ? "its end" : one, "its end");
        remove(copy);
    }

    private static void callsAreTold(String readme) {
        Set<String> face = new TreeSet<>();
        for (Method method : DesignTexts.class.getDeclaredMethods()) {
            if (Modifier.isPublic(method.getModifiers())) {
                face.add(method.getName());
            }
        }
        Desk.same("calls that are told", new TreeSet<>(groups("(?m)^- `(\\w+)\\(.*\\)`", readme)), face);
    }

    private static void testsAreTold(String readme) throws IOException {
        Set<String> there = new TreeSet<>();
        try (Stream<Path> paths = Files.list(Path.of("src/test/java"))) {
            paths.forEach(path -> there.add(path.getFileName().toString().replace(".java", "")));
        }
        Set<String> told = new TreeSet<>(groups("`@?([A-Z]\\w+)`", readme));
        told.retainAll(there);
        Desk.same("files under src/test/java that are told", told, there);
        Set<String> listed = new TreeSet<>(groups("(?m)^ *- `(\\w+Test)`", readme));
        listed.removeAll(there);
        Desk.same("tests that are told and are not there", listed, Set.of());
    }

    public static void main(String[] args) throws IOException, InterruptedException {
        String readme = Files.readString(README);
        example(readme);
        callsAreTold(readme);
        testsAreTold(readme);
        Desk.end();
    }
}
