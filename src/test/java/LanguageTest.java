import java.io.IOException;
import java.nio.file.Files;
import java.nio.file.Path;
import java.util.ArrayList;
import java.util.List;
import java.util.regex.Matcher;
import java.util.regex.Pattern;

/** The rules of ../shared/LANGUAGE.md that can be seen in the text of SlewRails.java. It runs in the project's folder. */
public final class LanguageTest {
    private static final String[] WORDS = {"throw", "throws", "try", "catch", "finally", "synchronized", "assert",
        "package", "protected", "volatile", "transient", "native", "strictfp", "double", "float", "equals", "hashCode",
        "toString", "Object", "Thread", "System\\.(?!arraycopy)\\w+", "\\w+Exact", "record", "var", "sealed"};
    private static final Pattern HEAD =
        Pattern.compile("(?m)^( {4}| {8})(?=\\S)(?!return|else|new)[\\w\\[\\] ]*?(\\w+)\\(([^()]*)\\) \\{$");

    private static String code(Path file) throws IOException {
        String text = Files.readString(file);
        return text.replaceAll("(?s)/\\*.*?\\*/", "").replaceAll("//[^\\n]*", "");
    }

    private static void words(Due due, String code) {
        for (String word : WORDS) {
            due.holds("rules 3, 4, 6: no " + word, !Pattern.compile("\\b" + word + "\\b").matcher(code).find());
        }
        due.holds("rule 2: no lambda", !code.contains("->"));
        due.holds("rule 2: no method reference", !code.contains("::"));
        due.holds("rule 5: no static initialiser", !code.matches("(?s).*static\\s*\\{.*"));
        due.holds("rule 10: no text is joined", !code.contains("\""));
        Matcher imports = Pattern.compile("(?m)^import (.*);$").matcher(code);
        while (imports.find()) {
            due.holds("rule 4: import " + imports.group(1), imports.group(1).equals("java.util.Arrays"));
        }
        Matcher inside = Pattern.compile("(?m)^ +.*\\bclass (\\w+)").matcher(code);
        int classes = 0;
        while (inside.find()) {
            classes++;
            due.holds("rule 2: static class " + inside.group(1), inside.group().contains("static"));
        }
        due.holds("rule 11: twelve classes", classes <= 12);
    }

    private static void methods(Due due, String code) {
        List<String> lines = new ArrayList<>(List.of(code.split("\n", -1)));
        Matcher heads = HEAD.matcher(code);
        int methods = 0;
        while (heads.find()) {
            methods++;
            int from = (int) code.substring(0, heads.start()).chars().filter(c -> c == '\n').count();
            int to = from;
            while (!lines.get(to).equals(heads.group(1) + "}")) {
                to++;
            }
            due.holds("rule 11: " + heads.group(2) + " is short", to - from < 60);
            due.holds("rule 11: parameters of " + heads.group(2), heads.group(3).split(",").length <= 7);
        }
        due.holds("methods were found", methods > 80);
    }

    public static void main(String[] args) throws IOException {
        Due due = new Due("LanguageTest");
        String code = code(Path.of("src/main/java/SlewRails.java"));
        words(due, code);
        methods(due, code);
        due.end();
    }
}
