import java.io.IOException;
import java.lang.reflect.Constructor;
import java.lang.reflect.Field;
import java.lang.reflect.Method;
import java.lang.reflect.Modifier;
import java.nio.file.Files;
import java.nio.file.Path;
import java.util.List;
import java.util.Set;
import java.util.TreeSet;
import java.util.regex.Matcher;
import java.util.regex.Pattern;

/** The public face, and those rules of ../shared/LANGUAGE.md that can be seen by reading the file or the class. */
public final class LanguageTest {
    private static final Path FILE = Path.of("src/main/java/TwoTreesAlike.java");
    private static final Path DOCUMENT = Path.of("../shared/DOC.md");

    public static void main(String[] args) throws IOException {
        String text = Files.readString(FILE).replaceAll("(?s)/\\*.*?\\*/", "").replaceAll("//[^\n]*", "");
        wordsThatAreNot(text);
        theFaceIsTheDocuments(Files.readString(DOCUMENT));
        membersAreFew();
        methodsAreShort(text);
        Check.end("LanguageTest");
    }

    private static void wordsThatAreNot(String text) {
        List<String> never = List.of("throw", "throws", "try", "catch", "finally", "synchronized", "assert", "import",
                "package", "Object", "equals", "hashCode", "toString", "System\\.(?!arraycopy)\\w+", "->", "::", "volatile");
        for (String word : never) {
            String bounded = word.matches("\\w.*") ? "\\b" + word + "\\b" : word;
            Check.holds(word + " stands there", !Pattern.compile(bounded).matcher(text).find());
        }
        Check.holds("a sign above 127", text.chars().allMatch(c -> c < 128));
    }

    private static void theFaceIsTheDocuments(String document) {
        String face = document.substring(document.indexOf("```java"), document.indexOf("## Terms"));
        Set<String> due = new TreeSet<>();
        Matcher m = Pattern.compile("public int (\\w+)\\(([^)]*)\\);").matcher(face);
        while (m.find()) {
            due.add(m.group(1) + " " + (m.group(2).isEmpty() ? 0 : m.group(2).split(",").length));
        }
        Set<String> publicOnes = new TreeSet<>();
        Set<String> names = new TreeSet<>();
        for (Method method : TwoTreesAlike.class.getDeclaredMethods()) {
            if (Modifier.isPublic(method.getModifiers())) {
                publicOnes.add(method.getName() + " " + method.getParameterCount());
                names.add(method.getName());
                Check.holds(method + " is of ints", method.getReturnType() == int.class);
            }
        }
        Check.is("methods", publicOnes.size(), 29);
        Check.holds("the face's methods: " + publicOnes, publicOnes.equals(due));
        for (Class<?> c : TwoTreesAlike.class.getDeclaredClasses()) {
            for (Method method : c.getDeclaredMethods()) {
                Check.holds(method + " bears a public one's name", !names.contains(method.getName()));
            }
        }
    }

    private static void membersAreFew() {
        Class<?> face = TwoTreesAlike.class;
        Check.holds("public final", Modifier.isPublic(face.getModifiers()) && Modifier.isFinal(face.getModifiers()));
        for (Constructor<?> c : face.getDeclaredConstructors()) {
            Check.holds("the constructor", Modifier.isPublic(c.getModifiers()) && c.getParameterCount() == 0);
        }
        for (Method method : face.getDeclaredMethods()) {
            int is = method.getModifiers();
            Check.holds(method + " is public or private", Modifier.isPublic(is) || Modifier.isPrivate(is));
        }
        Set<String> constants = Set.of("NONE", "BAD", "STATE", "FULL", "TAKEN", "RING");
        for (Field field : face.getDeclaredFields()) {
            int is = field.getModifiers();
            Check.holds(field + "", constants.contains(field.getName()) ? Modifier.isPublic(is) : Modifier.isPrivate(is));
        }
        Check.holds("twelve classes", face.getDeclaredClasses().length < 12);
        for (Class<?> c : face.getDeclaredClasses()) {
            Check.holds(c + " is static", Modifier.isStatic(c.getModifiers()));
            long fields = List.of(c.getDeclaredFields()).stream().filter(f -> !Modifier.isStatic(f.getModifiers())).count();
            Check.holds(c + " has few fields", fields <= 20);
            for (Field f : c.getDeclaredFields()) {
                Check.holds(f + " is a constant", !Modifier.isStatic(f.getModifiers()) || Modifier.isFinal(f.getModifiers()));
            }
        }
    }

    private static void methodsAreShort(String text) {
        String[] lines = text.split("\n");
        int begun = -1;
        for (int i = 0; i < lines.length; i++) {
            if (lines[i].matches(" {4}( {4})?[\\w\\[\\] ]+\\([^;]*\\) \\{")) {
                begun = i;
                Check.holds(lines[i] + " has seven parameters at most", lines[i].split(",").length <= 7);
            }
            if (begun >= 0 && lines[i].matches(" {4}( {4})?\\}")) {
                Check.holds(lines[begun] + " is short", i - begun <= 60);
                begun = -1;
            }
        }
    }
}
