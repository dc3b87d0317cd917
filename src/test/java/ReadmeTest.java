import java.io.IOException;
import java.nio.charset.StandardCharsets;
import java.nio.file.Files;
import java.nio.file.Path;
import java.util.ArrayList;
import java.util.Comparator;
import java.util.List;
import java.util.regex.Matcher;
import java.util.regex.Pattern;
import java.util.stream.Stream;

/** README.md: its commands work as they stand there, its run of calls answers what it tells, and it names every test. */
public final class ReadmeTest {
    private ReadmeTest() {
    }

    public static void main(String[] args) throws Exception {
        String readme = Files.readString(Path.of("README.md"), StandardCharsets.UTF_8);
        Path home = Files.createTempDirectory("readme");
        try {
            run(readme, projectLike(home, readme));
        } finally {
            remove(home);
        }
        namesEveryTest(readme);
        namesEveryCall(readme);
        Checks.end("ReadmeTest");
    }

    private static List<String> blocks(String readme, String kind) {
        List<String> found = new ArrayList<>();
        Matcher m = Pattern.compile("^```" + kind + "\n(.*?)^```$", Pattern.MULTILINE | Pattern.DOTALL).matcher(readme);
        while (m.find()) {
            found.add(m.group(1));
        }
        return found;
    }

    private static String only(String readme, String kind) {
        List<String> found = blocks(readme, kind);
        Checks.due("blocks of " + kind, found.size(), 1);
        return found.isEmpty() ? "" : found.get(0);
    }

    /** A directory in which the commands find what they name, so that none of them writes into the project. */
    private static Path projectLike(Path home, String readme) throws IOException {
        Path project = Files.createDirectory(home.resolve("project"));
        Files.createSymbolicLink(project.resolve("src"), Path.of("src").toRealPath());
        Files.createSymbolicLink(home.resolve("shared"), Path.of("../shared").toRealPath());
        Files.writeString(project.resolve("Example.java"), only(readme, "java"));
        return project;
    }

    private static void run(String readme, Path project) throws Exception {
        List<String> commands = blocks(readme, "sh");
        Checks.due("blocks of commands", commands.size(), 4);
        boolean compared = false;
        for (String command : commands) {
            if (command.contains(".ci/run")) {
                // it would run this test again
                Checks.holds(command + "names a script that is there", command.equals("bash .ci/run\n")
                        && Files.isRegularFile(Path.of(".ci/run")));
                continue;
            }
            String printed = printedBy(command, project);
            if (command.contains("java -cp out Example")) {
                dueLines(printed, only(readme, "text"));
                compared = true;
            }
        }
        Checks.holds("a command runs the example", compared);
    }

    private static String printedBy(String command, Path project) throws Exception {
        Process process = new ProcessBuilder("bash", "-e", "-c", command).directory(project.toFile())
                .redirectError(ProcessBuilder.Redirect.INHERIT).start();
        process.getOutputStream().close();
        String printed = new String(process.getInputStream().readAllBytes(), StandardCharsets.UTF_8);
        Checks.due("exit code of " + command, process.waitFor(), 0);
        return printed;
    }

    private static void dueLines(String printed, String told) {
        String[] got = printed.split("\n");
        String[] want = told.split("\n");
        for (int i = 0; i < Math.min(got.length, want.length); i++) {
            Checks.holds("the example prints " + got[i] + ", README.md tells " + want[i], got[i].equals(want[i]));
        }
        Checks.due("lines that the example prints", got.length, want.length);
    }

    private static void namesEveryTest(String readme) throws IOException {
        try (Stream<Path> files = Files.list(Path.of("src/test/java"))) {
            for (Path file : files.sorted().toList()) {
                String name = file.getFileName().toString().replace(".java", "");
                Checks.holds("README.md names " + name, !name.endsWith("Test") || readme.contains("`" + name));
            }
        }
    }

    private static void namesEveryCall(String readme) {
        for (java.lang.reflect.Method m : PacketToll.class.getMethods()) {
            if (m.getDeclaringClass() == PacketToll.class) {
                Checks.holds("README.md names " + m.getName(), readme.contains("`" + m.getName() + "`"));
            }
        }
    }

    private static void remove(Path home) throws IOException {
        try (Stream<Path> all = Files.walk(home)) {
            for (Path path : all.sorted(Comparator.reverseOrder()).toList()) {
                Files.delete(path);
            }
        }
    }
}
