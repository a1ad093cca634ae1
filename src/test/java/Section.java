import java.io.IOException;
import java.io.UncheckedIOException;
import java.nio.file.Files;
import java.nio.file.Path;
import java.util.Map;
import java.util.TreeMap;
import java.util.regex.Matcher;
import java.util.regex.Pattern;

/** A part of the document under one heading: ties each test to the words that it is of. */
final class Section {
    private static final Path DOC = Path.of("../shared/DOC.md");
    private static final Map<String, Section> SECTIONS = read();

    private final String heading;
    private final String text;
    /** Of each sign of the text: whether a test is of it. */
    private final boolean[] tested;

    private Section(String heading, String text) {
        this.heading = heading;
        this.text = text;
        this.tested = new boolean[text.length()];
    }

    private static Map<String, Section> read() {
        Map<String, Section> sections = new TreeMap<>();
        try {
            Matcher parts = Pattern.compile("(?s)## ([^\n]+)\n(.*?)(?=\n## |$)").matcher(Files.readString(DOC));
            while (parts.find()) {
                sections.put(parts.group(1), new Section(parts.group(1), plain(parts.group(2))));
            }
        } catch (IOException e) {
            throw new UncheckedIOException(e);
        }
        return sections;
    }

    /** The words alone: without marks, the call's own face, and what goes ahead of the first numbered part. */
    private static String plain(String body) {
        return body.replaceAll("Ahead of the calls [^\n]*", " ")
            .replaceAll("```(text)?", " ")
            .replaceAll("(?s)^.*======== 1 ", "")
            .replaceAll("======== \\d ", " ")
            .replaceAll("\\s+", " ")
            .replaceAll("^ ?`[^`]*`: ", "")
            .trim();
    }

    static Section of(String heading) {
        Section section = SECTIONS.get(heading);
        Due.holds("the document has no heading: " + heading, section != null);
        return section == null ? new Section(heading, "") : section;
    }

    /** The test is of these words, which stand here in the document. */
    void says(String words, Runnable test) {
        int at = text.indexOf(words);
        Due.holds(heading + ": the document does not say: " + words, at >= 0);
        for (int i = at; at >= 0 && i < at + words.length(); i++) {
            tested[i] = true;
        }
        Due.about(heading + " \"" + words + "\": ");
        int before = Due.answers();
        test.run();
        Due.holds("no answer was looked at", Due.answers() > before);
        Due.about("");
    }

    /** Words of the terms and of the promises that no test is of. */
    static void allAreTested() {
        int promises = 0;
        for (Section section : SECTIONS.values()) {
            boolean promise = section.heading.startsWith("Promise ");
            promises += promise ? 1 : 0;
            if (promise || section.heading.equals("Terms") || section.heading.equals("What it is")) {
                String left = section.untested();
                Due.holds(section.heading + ": no test is of: " + left, left.isBlank());
            }
        }
        Due.is("promises in the document", promises, 35);
    }

    private String untested() {
        StringBuilder left = new StringBuilder();
        for (int i = 0; i < text.length(); i++) {
            left.append(!tested[i] && Character.isLetterOrDigit(text.charAt(i)) ? text.charAt(i) : ' ');
        }
        return left.toString().replaceAll(" +", " ");
    }
}
