import java.io.IOException;
import java.lang.reflect.Field;
import java.lang.reflect.Modifier;
import java.nio.file.Files;
import java.nio.file.Path;
import java.util.ArrayList;
import java.util.List;
import java.util.Set;
import java.util.TreeSet;
import java.util.regex.Matcher;
import java.util.regex.Pattern;
import java.util.stream.Stream;

/** What README.md says, against the class, the document's face, .ci/run and the folder of the tests. */
public final class ReadmeTest {
    private static final Path README = Path.of("README.md");
    private static final Path DOC = Path.of("../shared/DOC.md");
    private static final Path RUN = Path.of(".ci/run");
    private static final Path TESTS = Path.of("src/test/java");
    private static final Pattern CALL = Pattern.compile("book\\.(\\w+)\\((.*?)\\); +// (-?\\d+|SpanBook\\.[A-Z]+)\\b.*");

    public static void main(String[] args) throws Exception {
        String text = Files.readString(README);
        examples(text);
        constants(text);
        calls(text);
        wayOfRunning(text);
        tests(text);
        Due.finish("ReadmeTest");
    }

    /** Each example is played line by line on a book of its own. */
    private static void examples(String text) throws Exception {
        int examples = 0;
        Set<Long> answers = new TreeSet<>();
        Matcher blocks = Pattern.compile("(?s)```java\n(.*?)```").matcher(text);
        while (blocks.find()) {
            examples++;
            String[] lines = blocks.group(1).split("\n");
            Due.holds("an example does not begin with a new book: " + lines[0], lines[0].equals("SpanBook book = new SpanBook();"));
            SpanBook book = new SpanBook();
            for (int i = 1; i < lines.length; i++) {
                Matcher call = CALL.matcher(lines[i]);
                Due.holds("an example has a line without call and answer: " + lines[i], call.matches());
                if (call.matches()) {
                    long told = number(call.group(3));
                    answers.add(told);
                    Due.is("the example's " + lines[i], Call.on(book, call.group(1), numbers(call.group(2))), told);
                }
            }
        }
        Due.is("examples", examples, 2);
        Due.holds("no example of each refusal", answers.containsAll(List.of(-2L, -3L, -4L)));
    }

    private static int[] numbers(String list) throws Exception {
        if (list.isEmpty()) {
            return new int[0];
        }
        String[] parts = list.split(", ");
        int[] numbers = new int[parts.length];
        for (int i = 0; i < parts.length; i++) {
            numbers[i] = number(parts[i]);
        }
        return numbers;
    }

    private static int number(String text) throws Exception {
        if (text.startsWith("SpanBook.")) {
            return SpanBook.class.getField(text.substring("SpanBook.".length())).getInt(null);
        }
        return Integer.parseInt(text);
    }

    private static void constants(String text) throws Exception {
        Set<String> had = new TreeSet<>();
        for (Field field : SpanBook.class.getDeclaredFields()) {
            if (Modifier.isPublic(field.getModifiers())) {
                had.add("`" + field.getName() + "` " + field.getInt(null));
            }
        }
        Due.holds("the constants are " + had, new TreeSet<>(found("(?m)^\\| (`[A-Z]+` -?\\d+) \\|", text)).equals(had));
    }

    /** The table of all calls has each of the document's face once, in its order. */
    private static void calls(String text) throws IOException {
        List<String> face = new ArrayList<>();
        for (String call : found("(?m)^    public (?:int|long) (\\w+\\(.*?\\));", Files.readString(DOC))) {
            face.add(call.replace("int ", ""));
        }
        List<String> table = found("(?m)^\\| `(\\w+\\(.*?\\))` \\|", text);
        Due.holds("the calls are " + face + ", README.md has " + table, table.equals(face));
    }

    /** README.md's two lines for one test are those of .ci/run, with the names put in. */
    private static void wayOfRunning(String text) throws IOException {
        Due.holds(".ci/run is no line of its own", text.contains("\n    .ci/run\n"));
        Due.holds(".ci/run can't be executed", Files.isExecutable(RUN));
        String run = Files.readString(RUN);
        String main = found("(?m)^main=(.*)$", run).get(0);
        for (String program : List.of("javac", "java")) {
            List<String> lines = found("(?m)\\b(" + program + " -.*?\"\\$(?:test|name)\")", run);
            Due.is("lines of .ci/run with " + program, lines.size(), 1);
            String line = String.join(" ", lines).replace("\"$classes\"", "out").replace("\"$folder\"", TESTS.toString())
                .replace("\"$main\"", main).replace("\"$test\"", TESTS + "/SpansTest.java").replace("\"$name\"", "SpansTest");
            Due.holds("not told in README.md: " + line, text.contains("\n    " + line + "\n"));
        }
    }

    /** Each file with a main method is named as a test, so that .ci/run runs it, and told in README.md. */
    private static void tests(String text) throws IOException {
        List<Path> files;
        try (Stream<Path> all = Files.walk(TESTS)) {
            files = all.filter(Files::isRegularFile).toList();
        }
        Set<String> had = new TreeSet<>();
        for (Path file : files) {
            if (Files.readString(file).contains("    public static void main(String[] args)")) {
                String name = file.getFileName().toString().replace(".java", "");
                Due.holds(name + " has a main method and is not run", name.endsWith("Test"));
                had.add(name);
            }
        }
        Set<String> told = new TreeSet<>(found("(?m)^\\| `(\\w+Test)` \\|", text));
        Due.holds("the tests are " + had + ", README.md tells " + told, told.equals(had));
    }

    private static List<String> found(String pattern, String text) {
        return Pattern.compile(pattern).matcher(text).results().map(result -> result.group(1)).toList();
    }
}
