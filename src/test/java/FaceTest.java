import java.io.IOException;
import java.lang.reflect.Constructor;
import java.lang.reflect.Field;
import java.lang.reflect.Method;
import java.lang.reflect.Modifier;
import java.nio.file.Files;
import java.nio.file.Path;
import java.util.ArrayList;
import java.util.Arrays;
import java.util.Collections;
import java.util.List;
import java.util.Map;
import java.util.Set;
import java.util.TreeMap;
import java.util.TreeSet;
import java.util.regex.Matcher;
import java.util.regex.Pattern;

/** The public face is the document's, to its constants' values, and nothing else can be seen from without. */
public final class FaceTest {
    private static final Class<?> CLASS = TwoTreesAlike.class;
    private static final Path DOCUMENT = Path.of("../shared/DOC.md");

    public static void main(String[] args) throws ReflectiveOperationException, IOException {
        String document = Files.readString(DOCUMENT);
        String face = document.substring(document.indexOf("```java"), document.indexOf("## Terms"));
        theClass();
        theConstructor();
        theConstants(face);
        theMethods(face);
        Check.end("FaceTest");
    }

    private static void theClass() {
        int is = CLASS.getModifiers();
        Check.holds("public and final", Modifier.isPublic(is) && Modifier.isFinal(is));
        Check.holds("without a package", CLASS.getPackageName().isEmpty());
        Check.holds("of no other class", CLASS.getSuperclass() == Object.class && CLASS.getInterfaces().length == 0);
        for (Class<?> c : CLASS.getDeclaredClasses()) {
            int inside = c.getModifiers();
            Check.holds(c + " is static", Modifier.isStatic(inside));
            Check.holds(c + " is not seen", !Modifier.isPublic(inside) && !Modifier.isProtected(inside));
        }
    }

    private static void theConstructor() {
        Constructor<?>[] all = CLASS.getDeclaredConstructors();
        Check.is("constructors", all.length, 1);
        Check.holds("it is public, and takes nothing",
                Modifier.isPublic(all[0].getModifiers()) && all[0].getParameterCount() == 0);
    }

    private static void theConstants(String face) throws ReflectiveOperationException {
        Map<String, Integer> due = new TreeMap<>();
        Matcher line = Pattern.compile("public static final int ([^;]*);").matcher(face);
        while (line.find()) {
            for (String constant : line.group(1).split(",")) {
                String[] pair = constant.trim().split(" = ");
                due.put(pair[0], Integer.parseInt(pair[1]));
            }
        }
        Check.is("constants of the document", due.size(), 6);
        for (Field field : CLASS.getDeclaredFields()) {
            int is = field.getModifiers();
            if (!due.containsKey(field.getName())) {
                Check.holds(field + " is private", Modifier.isPrivate(is));
                continue;
            }
            Check.holds(field + " is a public constant, an int", Modifier.isPublic(is) && Modifier.isStatic(is)
                    && Modifier.isFinal(is) && field.getType() == int.class);
            Check.is(field.getName(), field.getInt(null), due.remove(field.getName()));
        }
        Check.holds("not there: " + due, due.isEmpty());
    }

    private static void theMethods(String face) {
        List<String> due = new ArrayList<>();
        Matcher m = Pattern.compile("public int (\\w+)\\(([^)]*)\\);").matcher(face);
        while (m.find()) {
            due.add(m.group(1) + " " + (m.group(2).isEmpty() ? 0 : m.group(2).split(",").length));
        }
        List<String> is = new ArrayList<>();
        Set<String> names = new TreeSet<>();
        for (Method method : CLASS.getDeclaredMethods()) {
            if (Modifier.isPublic(method.getModifiers())) {
                is.add(method.getName() + " " + method.getParameterCount());
                names.add(method.getName());
                Check.holds(method + " answers an int", method.getReturnType() == int.class);
                Check.holds(method + " takes ints",
                        Arrays.stream(method.getParameterTypes()).allMatch(type -> type == int.class));
                Check.holds(method + " is no static one", !Modifier.isStatic(method.getModifiers()));
            }
        }
        Collections.sort(due);
        Collections.sort(is);
        Check.is("methods", is.size(), 29);
        Check.holds("they are " + is + ", due are " + due, is.equals(due));
        theOthersBearOtherNames(names);
    }

    private static void theOthersBearOtherNames(Set<String> publicOnes) {
        for (Method method : CLASS.getDeclaredMethods()) {
            boolean isSeen = Modifier.isPublic(method.getModifiers());
            Check.holds(method + " is public or private", isSeen || Modifier.isPrivate(method.getModifiers()));
            Check.holds(method + " has another name", isSeen || !publicOnes.contains(method.getName()));
        }
        for (Class<?> c : CLASS.getDeclaredClasses()) {
            for (Method method : c.getDeclaredMethods()) {
                Check.holds(method + " has another name", !publicOnes.contains(method.getName()));
            }
        }
    }
}
