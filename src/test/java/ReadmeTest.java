import java.io.IOException;
import java.net.URL;
import java.net.URLClassLoader;
import java.nio.file.Files;
import java.nio.file.Path;
import java.util.ArrayList;
import java.util.List;
import java.util.regex.Matcher;
import java.util.regex.Pattern;
import java.util.stream.Stream;
import javax.tools.ToolProvider;

/** README.md has each call of the document and each test of the project, and its example answers what it says. */
public final class ReadmeTest {
    private static final Pattern CALL = Pattern.compile("(x\\.\\w+\\(.*\\)); +// (-?\\d+)(:.*)?");

    public static void main(String[] args) throws IOException, ReflectiveOperationException {
        String readme = Files.readString(Path.of("README.md"));
        itHasAllCalls(readme);
        itHasAllTests(readme);
        theExampleAnswers(readme.substring(readme.indexOf("## An example"), readme.indexOf("## How to run its tests")));
        Check.end("ReadmeTest");
    }

    private static void itHasAllCalls(String readme) throws IOException {
        Matcher m = Pattern.compile("public int (\\w+\\([^)]*\\));").matcher(Files.readString(Path.of("../shared/DOC.md")));
        int calls = 0;
        while (m.find()) {
            String call = m.group(1).replace("int ", "");
            Check.holds("it has " + call, readme.contains("| `" + call + "` |"));
            calls++;
        }
        Check.is("calls of the document", calls, 29);
    }

    private static void itHasAllTests(String readme) throws IOException {
        try (Stream<Path> files = Files.list(Path.of("src/test/java"))) {
            for (Path file : files.toList()) {
                String name = file.getFileName().toString().replace(".java", "");
                Check.holds("it has " + name, name.equals("Check") || readme.contains("`" + name + "`"));
            }
        }
    }

    private static void theExampleAnswers(String text) throws IOException, ReflectiveOperationException {
        StringBuilder body = new StringBuilder();
        List<String> calls = new ArrayList<>();
        List<Integer> due = new ArrayList<>();
        for (String line : text.substring(text.indexOf("```java") + 7, text.lastIndexOf("```")).trim().split("\n")) {
            Matcher call = CALL.matcher(line);
            if (call.matches()) {
                body.append("got[").append(calls.size()).append("] = ").append(call.group(1)).append(";\n");
                calls.add(call.group(1));
                due.add(Integer.parseInt(call.group(2)));
            } else {
                Check.holds("a line that makes an object: " + line, line.equals("TwoTreesAlike x = new TwoTreesAlike();"));
                body.append(line).append('\n');
            }
        }
        Check.holds("calls of the example: " + calls, calls.size() > 15);
        int[] got = run("public final class Example { public static int[] got() {\nint[] got = new int[" + calls.size()
                + "];\n" + body + "return got;\n} }\n");
        for (int i = 0; i < calls.size(); i++) {
            Check.is("the example: " + calls.get(i), got[i], due.get(i));
        }
    }

    private static int[] run(String program) throws IOException, ReflectiveOperationException {
        Path folder = Files.createTempDirectory("readme");
        try {
            Path file = Files.writeString(folder.resolve("Example.java"), program);
            String[] options = {"-cp", System.getProperty("java.class.path"), "-d", folder.toString(), file.toString()};
            if (ToolProvider.getSystemJavaCompiler().run(null, null, null, options) != 0) {
                throw new IllegalStateException("the example does not compile");
            }
            try (URLClassLoader loader = new URLClassLoader(new URL[] {folder.toUri().toURL()})) {
                return (int[]) loader.loadClass("Example").getMethod("got").invoke(null);
            }
        } finally {
            Files.deleteIfExists(folder.resolve("Example.java"));
            Files.deleteIfExists(folder.resolve("Example.class"));
            Files.delete(folder);
        }
    }
}
