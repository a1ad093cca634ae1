import java.lang.reflect.Constructor;
import java.lang.reflect.Field;
import java.lang.reflect.Method;
import java.lang.reflect.Modifier;
import java.nio.file.Files;
import java.nio.file.Path;
import java.util.List;
import java.util.Set;
import java.util.TreeSet;
import java.util.regex.Matcher;
import java.util.regex.Pattern;

/** The document's public face, and those rules of LANGUAGE.md that the class file or the text shows. */
public final class FaceTest {
    private static final Path SOURCE = Path.of("src/main/java/SpanBook.java");
    private static final Path DOC = Path.of("../shared/DOC.md");

    public static void main(String[] args) throws Exception {
        face();
        members();
        fields(SpanBook.class);
        for (Class<?> inside : SpanBook.class.getDeclaredClasses()) {
            Due.holds("rule 2: " + inside + " is not static", Modifier.isStatic(inside.getModifiers()));
            Due.holds("rule 1: " + inside + " is open", !Modifier.isPublic(inside.getModifiers()));
            fields(inside);
            parameters(inside);
        }
        parameters(SpanBook.class);
        Due.holds("rule 11: classes", SpanBook.class.getDeclaredClasses().length < 12);
        text();
        Due.finish("FaceTest");
    }

    /** What the document writes, against what the class has. */
    private static void face() throws Exception {
        Set<String> told = new TreeSet<>();
        Matcher lines = Pattern.compile("public (int|long) (\\w+)\\((.*?)\\);").matcher(Files.readString(DOC));
        while (lines.find()) {
            told.add(lines.group(1) + " " + lines.group(2) + lines.group(3).replaceAll("(\\w+) \\w+", "$1"));
        }
        Set<String> had = new TreeSet<>();
        for (Method method : SpanBook.class.getDeclaredMethods()) {
            if (Modifier.isPublic(method.getModifiers())) {
                StringBuilder text = new StringBuilder(method.getReturnType() + " " + method.getName());
                for (int i = 0; i < method.getParameterCount(); i++) {
                    text.append(i == 0 ? "" : ", ").append(method.getParameterTypes()[i]);
                }
                had.add(text.toString());
            }
        }
        Due.holds("the face is " + had + ", told is " + told, had.equals(told) && told.size() == 34);
        Due.is("NONE", SpanBook.NONE, -1);
        Due.is("BAD", SpanBook.BAD, -2);
        Due.is("NOT", SpanBook.NOT, -3);
        Due.is("FAR", SpanBook.FAR, -4);
    }

    private static void members() {
        int type = SpanBook.class.getModifiers();
        Due.holds("rule 1: public and final", Modifier.isPublic(type) && Modifier.isFinal(type));
        Set<String> names = new TreeSet<>();
        for (Method method : SpanBook.class.getDeclaredMethods()) {
            if (Modifier.isPublic(method.getModifiers())) {
                names.add(method.getName());
            }
        }
        for (Method method : SpanBook.class.getDeclaredMethods()) {
            boolean open = Modifier.isPublic(method.getModifiers());
            boolean closed = Modifier.isPrivate(method.getModifiers()) && !names.contains(method.getName());
            Due.holds("rule 1: " + method, open || closed || method.isSynthetic());
        }
        for (Class<?> inside : SpanBook.class.getDeclaredClasses()) {
            for (Method method : inside.getDeclaredMethods()) {
                boolean closed = Modifier.isPrivate(method.getModifiers());
                Due.holds("rule 1: the name of " + method, !closed || !names.contains(method.getName()));
            }
        }
        Set<String> constants = new TreeSet<>();
        for (Field field : SpanBook.class.getDeclaredFields()) {
            if (!Modifier.isPrivate(field.getModifiers())) {
                constants.add(field.toString());
            }
        }
        Due.is("rule 1: constants " + constants, constants.size(), 4);
        Constructor<?>[] makers = SpanBook.class.getDeclaredConstructors();
        Due.is("rule 1: constructors", makers.length, 1);
        Due.is("rule 1: its parameters", makers[0].getParameterCount(), 0);
        Due.holds("rule 1: it is public", Modifier.isPublic(makers[0].getModifiers()));
    }

    private static void fields(Class<?> type) {
        int own = 0;
        for (Field field : type.getDeclaredFields()) {
            if (Modifier.isStatic(field.getModifiers())) {
                Due.holds("rule 5: " + field, Modifier.isFinal(field.getModifiers()));
            } else {
                own++;
            }
        }
        Due.holds("rule 11: fields of " + type, own <= 20);
    }

    private static void parameters(Class<?> type) {
        for (Method method : type.getDeclaredMethods()) {
            Due.holds("rule 11: " + method, method.getParameterCount() <= 7);
        }
    }

    private static void text() throws Exception {
        String text = Files.readString(SOURCE);
        String code = text.replaceAll("(?s)/\\*.*?\\*/", "").replaceAll("//[^\n]*", "");
        for (String word : List.of("throw", "throws", "try", "catch", "finally", "synchronized", "assert", "package",
            "import", "Exception", "random", "Thread", "protected", "toString", "hashCode", "System\\.(?!arraycopy)",
            "\\w+Exact", "->", "::", "\\(\\) *\\{ *\\{")) {
            Matcher found = Pattern.compile(word.matches("\\w+") ? "\\b" + word + "\\b" : word).matcher(code);
            Due.holds("rules 2 to 6, 13: the text has " + word, !found.find());
        }
        Due.holds("the text has a tab or a sign above 126", text.chars().allMatch(c -> c == '\n' || c >= 32 && c < 127));
        int begun = 0;
        String[] lines = text.split("\n");
        for (int i = 0; i < lines.length; i++) {
            begun = lines[i].matches(" {4,8}\\S.*\\) \\{") ? i : begun;
            boolean ends = lines[i].matches(" {4,8}\\}");
            Due.holds("rule 11: line " + (begun + 1) + " begins a long method", !ends || i - begun < 60
                || lines[i].equals("    }") && lines[begun].startsWith("        "));
        }
    }
}
