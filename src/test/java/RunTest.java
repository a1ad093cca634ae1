import java.io.IOException;
import java.nio.file.Files;
import java.nio.file.Path;
import java.util.ArrayList;
import java.util.Comparator;
import java.util.List;
import java.util.Map;
import java.util.TreeMap;
import java.util.stream.Stream;

/** .ci/run itself, copied into small projects: what it runs, and that it fails if one test fails. */
public final class RunTest {
    private static final String CLASS = "main/src/main/java/SpanBook.java";
    private static final String OWN = "main/src/test/java/FirstTest.java";
    private static final String SHARED = "shared/tests/Runs.java";
    private static final String FAILS = "System.exit(1);";

    /** A project's files, and what .ci/run must answer for it; "" as the last line stands for any. */
    private record Project(String about, Map<String, String> files, int exit, String lastLine) {
    }

    /** What a run of .ci/run gave. */
    private record Outcome(Project project, int exit, List<String> lines) {
        String lastLine() {
            return lines.isEmpty() ? "" : lines.get(lines.size() - 1);
        }
    }

    public static void main(String[] args) {
        List<Outcome> outcomes = projects().parallelStream().map(RunTest::outcome).toList();
        for (Outcome outcome : outcomes) {
            Project project = outcome.project;
            String told = project.about + ": .ci/run printed " + outcome.lines;
            Due.is(told + " and", outcome.exit, project.exit);
            Due.holds(told, project.lastLine.isEmpty() || outcome.lastLine().equals(project.lastLine));
        }
        Due.finish("RunTest");
    }

    private static List<Project> projects() {
        List<Project> all = new ArrayList<>();
        all.add(changed("all is fine", 0, "2 passed, 0 failed", OWN, test("FirstTest", "Helper.help();"),
            "main/src/test/java/Helper.java", "final class Helper { static void help() { } }"));
        all.add(changed("a test of the project fails", 1, "1 passed, 1 failed", OWN, test("FirstTest", FAILS)));
        all.add(changed("a test of the project throws", 1, "1 passed, 1 failed", OWN,
            test("FirstTest", "throw new IllegalStateException();")));
        all.add(changed("a test of the project can't be compiled", 1, "1 passed, 1 failed", OWN, test("FirstTest", "no;")));
        all.add(changed("one of two tests of the project fails", 1, "2 passed, 1 failed",
            "main/src/test/java/SecondTest.java", test("SecondTest", FAILS)));
        all.add(changed("a test in a folder of its own fails", 1, "2 passed, 1 failed",
            "main/src/test/java/more/FirstTest.java", test("FirstTest", FAILS)));
        all.add(changed("a shared test fails", 1, "1 passed, 1 failed", SHARED, test("Runs", FAILS)));
        all.add(changed("one of two shared tests fails", 1, "2 passed, 1 failed",
            "shared/tests/Others.java", test("Others", FAILS)));
        all.add(changed("a shared test in a folder of its own fails", 1, "2 passed, 1 failed",
            "shared/tests/more/Runs.java", test("Runs", FAILS)));
        all.add(changed("the class can't be compiled", 1, "0 passed, 2 failed", CLASS, "public final class SpanBook {"));
        all.add(changed("the class is of a later Java", 1, "0 passed, 2 failed", CLASS,
            "public final class SpanBook { int of(Object o) { return switch (o) { case String s -> 1; default -> 2; }; } }"));
        all.add(changed("there is no class", 1, "0 passed, 2 failed", CLASS, null));
        all.add(changed("the project has no test", 1, "", OWN, null));
        all.add(changed("there is no shared test", 1, "", SHARED, null));
        return all;
    }

    private static String test(String name, String line) {
        return "public final class " + name + " { public static void main(String[] args) { new SpanBook(); " + line + " } }";
    }

    /** A project in which all is fine, but for some files: the name and the text of each, null for none. */
    private static Project changed(String about, int exit, String lastLine, String... changes) {
        Map<String, String> files = new TreeMap<>();
        files.put(CLASS, "public final class SpanBook { }");
        files.put(OWN, test("FirstTest", ""));
        files.put(SHARED, test("Runs", ""));
        for (int i = 0; i + 1 < changes.length; i += 2) {
            files.put(changes[i], changes[i + 1]);
        }
        return new Project(about, files, exit, lastLine);
    }

    private static Outcome outcome(Project project) {
        try {
            Path folder = Files.createTempDirectory("RunTest");
            try {
                return run(project, folder);
            } finally {
                remove(folder);
            }
        } catch (IOException | InterruptedException e) {
            return new Outcome(project, -1, List.of(e.toString()));
        }
    }

    private static Outcome run(Project project, Path folder) throws IOException, InterruptedException {
        for (Map.Entry<String, String> file : project.files.entrySet()) {
            Path path = folder.resolve(file.getKey());
            Files.createDirectories(path.getParent());
            if (file.getValue() != null) {
                Files.writeString(path, file.getValue());
            }
        }
        Path script = folder.resolve("main/.ci/run");
        Files.createDirectories(script.getParent());
        Files.copy(Path.of(".ci/run"), script);
        Process process = new ProcessBuilder("bash", script.toString()).redirectErrorStream(true).start();
        process.getOutputStream().close();
        List<String> lines = new String(process.getInputStream().readAllBytes()).lines().toList();
        return new Outcome(project, process.waitFor(), lines);
    }

    private static void remove(Path folder) throws IOException {
        List<Path> paths;
        try (Stream<Path> all = Files.walk(folder)) {
            paths = all.sorted(Comparator.reverseOrder()).toList();
        }
        for (Path path : paths) {
            Files.delete(path);
        }
    }
}
