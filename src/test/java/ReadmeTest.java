import java.io.IOException;
import java.lang.reflect.Method;
import java.net.URL;
import java.net.URLClassLoader;
import java.nio.file.Files;
import java.nio.file.Path;
import java.util.ArrayList;
import java.util.List;
import java.util.Map;
import java.util.regex.Matcher;
import java.util.regex.Pattern;
import java.util.stream.Stream;
import javax.tools.ToolProvider;

/**
 * What README.md shows of the use of the class answers as it says: its Java is compiled as it stands there, all parts as
 * one run, and each call's answer is compared with the begin of the comment behind it. It runs in the project's folder.
 */
public final class ReadmeTest {
    private static final Pattern BLOCK = Pattern.compile("(?s)```java\\n(.*?)```");
    private static final Pattern CALL = Pattern.compile("(x\\.\\w+\\([^;]*\\)); *// (-?\\d+|[A-Z]+)\\b.*");
    private static final Map<String, Integer> NAMES = Map.of("NONE", SlewRails.NONE, "BAD", SlewRails.BAD,
        "STATE", SlewRails.STATE, "FULL", SlewRails.FULL);

    private final Due due;
    private final List<String> calls = new ArrayList<>();
    private final List<Long> told = new ArrayList<>();
    private final StringBuilder body = new StringBuilder();

    private ReadmeTest(Due due) {
        this.due = due;
    }

    private void take(String readme) {
        Matcher blocks = BLOCK.matcher(readme);
        while (blocks.find()) {
            for (String line : blocks.group(1).split("\n")) {
                takeLine(line);
            }
        }
    }

    /** A call at the begin of a line has to show its answer; all else is taken over as it is. */
    private void takeLine(String line) {
        Matcher call = CALL.matcher(line);
        if (!call.matches()) {
            due.holds("an answer is shown: " + line, !line.startsWith("x."));
            body.append(line).append('\n');
            return;
        }
        String answer = call.group(2);
        boolean isName = Character.isLetter(answer.charAt(0));
        due.holds("a constant of the class: " + line, !isName || NAMES.containsKey(answer));
        body.append("got[").append(calls.size()).append("] = ").append(call.group(1)).append(";\n");
        calls.add(call.group(1));
        told.add(isName ? NAMES.getOrDefault(answer, 0) : Long.parseLong(answer));
    }

    private long[] answers(Path folder) throws Exception {
        Path file = folder.resolve("Shown.java");
        Files.writeString(file, "public final class Shown { public static long[] answers() {\nlong[] got = new long["
            + calls.size() + "];\n" + body + "return got; } }\n");
        int failed = ToolProvider.getSystemJavaCompiler().run(null, null, null, "-cp",
            System.getProperty("java.class.path"), "-d", folder.toString(), file.toString());
        due.is("README.md does not compile", failed, 0);
        if (failed != 0) {
            return new long[0];
        }
        try (URLClassLoader loader = new URLClassLoader(new URL[] {folder.toUri().toURL()})) {
            return (long[]) loader.loadClass("Shown").getMethod("answers").invoke(null);
        }
    }

    private void compare() throws Exception {
        Path folder = Files.createTempDirectory("readme");
        try {
            long[] got = answers(folder);
            due.is("calls that README.md shows", got.length, calls.size());
            for (int i = 0; i < got.length; i++) {
                due.is("README.md: " + calls.get(i), got[i], told.get(i));
            }
        } finally {
            for (String name : new String[] {"Shown.java", "Shown.class"}) {
                Files.deleteIfExists(folder.resolve(name));
            }
            Files.delete(folder);
        }
    }

    private void namesAll(String readme) throws IOException {
        for (Method m : SlewRails.class.getMethods()) {
            if (m.getDeclaringClass() == SlewRails.class) {
                due.holds("README.md shows " + m.getName() + "()", readme.contains("x." + m.getName() + "("));
            }
        }
        try (Stream<Path> tests = Files.list(Path.of("src/test/java"))) {
            for (Path test : tests.toList()) {
                String name = test.getFileName().toString();
                String shown = name.endsWith("Test.java") ? name.replace(".java", "") : name;
                due.holds("README.md names " + shown, Pattern.compile("\\b" + Pattern.quote(shown)).matcher(readme).find());
            }
        }
        due.holds("README.md says how to run the tests", readme.contains("    .ci/run\n"));
    }

    public static void main(String[] args) throws Exception {
        Due due = new Due("ReadmeTest");
        String readme = Files.readString(Path.of("README.md"));
        ReadmeTest test = new ReadmeTest(due);
        test.take(readme);
        test.compare();
        test.namesAll(readme);
        due.end();
    }
}
