import java.io.IOException;
import java.nio.file.Files;
import java.nio.file.Path;
import java.util.List;
import java.util.regex.Matcher;
import java.util.regex.Pattern;

/** What of LANGUAGE.md can be read from the source itself, however that is set out. */
public final class LanguageTest {
    private static final String SOURCE = "src/main/java/WhoRules.java";
    private static final int LINES_MOST = 66, PARAMETERS_MOST = 7;

    private final Check check = new Check("language");
    private final String source;
    /** Without comments and texts. */
    private final String code;

    private LanguageTest() throws IOException {
        source = Files.readString(Path.of(SOURCE));
        code = source.replaceAll("(?s)/\\*.*?\\*/", "").replaceAll("//[^\n]*", "")
                .replaceAll("\"(\\\\.|[^\"\\\\\n])*\"", "\"\"").replaceAll("'(\\\\.|[^'])'", "' '");
    }

    public static void main(String[] args) throws IOException {
        LanguageTest t = new LanguageTest();
        t.words();
        t.imports();
        t.signs();
        t.libraryCalls();
        t.methods();
        t.staticFields();
        t.check.end();
    }

    private int times(String pattern) {
        Matcher m = Pattern.compile(pattern).matcher(code);
        int times = 0;
        while (m.find()) {
            times++;
        }
        return times;
    }

    private void words() {
        String[] none = {
            "\\bthrow\\b", "\\btry\\b", "\\bcatch\\b", "\\bsynchronized\\b", "\\bassert\\b", "\\bpackage\\b", "::",
            "\\bstatic\\s*\\{", "\\bvar\\b", "\\bvolatile\\b", "\\bprotected\\b", "\\bnative\\b", "\\bNaN\\b",
            "\\bSystem\\.(?!arraycopy)", "\\bObject\\b", "\\.hashCode\\b", "Exact\\(", "\\bHashMap\\b", "\\bRandom\\b", "\\bThread\\b",
            "\\b(Integer|Long)\\.(parse|valueOf|decode|to\\w*String)",
        };
        for (String n : none) {
            check.due("times of " + n, times(n), 0);
        }
    }

    private void imports() {
        Matcher m = Pattern.compile("\\bimport\\s+([\\w.]+)\\s*;").matcher(code);
        while (m.find()) {
            boolean fine = List.of("java.util.Arrays", "java.util.ArrayList", "java.util.List", "java.util.Iterator").contains(m.group(1));
            check.due(m.group(), fine ? 1 : 0, 1);
        }
    }

    private void signs() {
        for (int i = 0; i < source.length(); i++) {
            if (source.charAt(i) > 126 || source.charAt(i) < 32 && "\n\r\t".indexOf(source.charAt(i)) < 0) {
                check.due("sign at " + i, source.charAt(i), ' ');
            }
        }
    }

    /** Only calls of the library that LANGUAGE.md lists: of texts, and of the classes with static functions. */
    private void libraryCalls() {
        Matcher m = Pattern.compile("\\b(Arrays|Math|System|List|String)\\.(\\w+)").matcher(code);
        List<String> fine = List.of("Arrays.fill", "Arrays.copyOf", "Arrays.copyOfRange", "Math.min", "Math.max", "Math.abs", "Math.floorDiv",
                "Math.floorMod", "System.arraycopy", "List.of");
        while (m.find()) {
            check.due(m.group(), fine.contains(m.group()) ? 1 : 0, 1);
        }
    }

    private void methods() {
        Matcher head = Pattern.compile("[\\w>\\]]\\s+(\\w+)\\s*\\(([^()]*)\\)\\s*\\{").matcher(code);
        int methods = 0;
        while (head.find()) {
            if (head.group().matches("(?s).*\\b(if|for|while|switch|else|return|new)\\b\\s*\\(.*")) {
                continue;
            }
            methods++;
            int lines = linesFrom(head.end());
            check.due(head.group(1) + " has " + lines + " lines", lines <= LINES_MOST ? 1 : 0, 1);
            int parameters = head.group(2).isBlank() ? 0 : head.group(2).split(",").length;
            check.due(head.group(1) + " has " + parameters + " parameters", parameters <= PARAMETERS_MOST ? 1 : 0, 1);
        }
        check.due("methods were found", methods > 37 ? 1 : 0, 1);
    }

    /** How many lines there are to the brace that closes the one just ahead. */
    private int linesFrom(int start) {
        int depth = 1;
        int lines = 0;
        for (int i = start; i < code.length() && depth > 0; i++) {
            char c = code.charAt(i);
            depth += c == '{' ? 1 : c == '}' ? -1 : 0;
            lines += c == '\n' ? 1 : 0;
        }
        return lines;
    }

    private void staticFields() {
        Matcher m = Pattern.compile("\\bstatic\\s+(?!final\\s+class|class)([^;(){]*)[;=]").matcher(code);
        int fields = 0;
        while (m.find()) {
            fields++;
            check.due(m.group(), m.group(1).startsWith("final ") ? 1 : 0, 1);
        }
        check.due("constants were found", fields > 1 ? 1 : 0, 1);
    }
}
