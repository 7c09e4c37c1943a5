import java.io.IOException;
import java.nio.file.Files;
import java.nio.file.Path;
import java.util.ArrayList;
import java.util.List;
import java.util.regex.Matcher;
import java.util.regex.Pattern;

/** What of LANGUAGE.md can be read from the source itself. */
public final class LanguageTest {
    private static final String SOURCE = "src/main/java/WhoRules.java";

    private final Check check = new Check("language");
    private final String source;
    private final String code;

    private LanguageTest() throws IOException {
        source = Files.readString(Path.of(SOURCE));
        code = source.replaceAll("(?s)/\\*.*?\\*/", "").replaceAll("//[^\n]*", "")
                .replaceAll("\"[^\"]*\"", "\"\"").replaceAll("'(\\\\.|[^'])'", "' '");
    }

    public static void main(String[] args) throws IOException {
        LanguageTest t = new LanguageTest();
        t.words();
        t.libraryCalls();
        t.methods();
        t.staticFields();
        t.check.end();
    }

    private int times(String pattern) {
        Matcher m = Pattern.compile(pattern).matcher(code);
        int times = 0;
        while (m.find()) {
            times++;
        }
        return times;
    }

    private void words() {
        String[] none = {
            "\\bthrow\\b", "\\btry\\b", "\\bcatch\\b", "\\bsynchronized\\b", "\\bassert\\b", "\\bpackage\\b", "->", "::",
            "\\bstatic\\s*\\{", "\\bvar\\b", "\\bvolatile\\b", "\\bprotected\\b",
            "\\bSystem\\.(?!arraycopy)", "\\bObject\\b", "\\.hashCode\\b", "\\.toString\\b", "Exact\\(", "\\bwhile\\s*\\(true",
            "\\bnative\\b", "\\bNaN\\b", "\\bHashMap\\b", "\\bRandom\\b",
        };
        for (String n : none) {
            check.due("times of " + n, times(n), 0);
        }
        for (String line : imports()) {
            boolean fine = List.of("Arrays", "ArrayList", "List", "Iterator").contains(line.replaceAll("import java\\.util\\.(\\w+);", "$1"));
            check.due(line, fine ? 1 : 0, 1);
        }
        for (int i = 0; i < source.length(); i++) {
            if (source.charAt(i) > 126 || source.charAt(i) < 32 && source.charAt(i) != '\n') {
                check.due("sign at " + i, source.charAt(i), ' ');
            }
        }
    }

    private List<String> imports() {
        List<String> lines = new ArrayList<>();
        for (String line : code.split("\n")) {
            if (line.startsWith("import")) {
                lines.add(line);
            }
        }
        return lines;
    }

    /** Only calls of the library that LANGUAGE.md lists: of texts, and of the classes with static functions. */
    private void libraryCalls() {
        Matcher m = Pattern.compile("\\b(Arrays|Math|Integer|Long|String|StringBuilder|List)\\.(\\w+)").matcher(code);
        List<String> fine = List.of("Arrays.fill", "Math.min", "Math.max", "Integer.bitCount", "Integer.MAX_VALUE", "Long.MIN_VALUE");
        while (m.find()) {
            check.due(m.group(), fine.contains(m.group()) ? 1 : 0, 1);
        }
    }

    private void methods() {
        String[] lines = code.split("\n", -1);
        Pattern head = Pattern.compile("^ {4,8}(?!return|else|new)[\\w<>\\[\\] ]*?\\b(\\w+)\\(([^()]*)\\) \\{$");
        int methods = 0;
        for (int i = 0; i < lines.length; i++) {
            Matcher m = head.matcher(lines[i]);
            if (!m.matches()) {
                continue;
            }
            methods++;
            String indent = lines[i].substring(0, lines[i].indexOf(lines[i].trim()));
            int end = i;
            while (!lines[end].equals(indent + "}")) {
                end++;
            }
            check.due(m.group(1) + " has " + (end - i) + " lines", end - i <= 60 ? 1 : 0, 1);
            int parameters = m.group(2).isBlank() ? 0 : m.group(2).split(",").length;
            check.due(m.group(1) + " has " + parameters + " parameters", parameters <= 7 ? 1 : 0, 1);
        }
        check.due("methods were found", methods > 38 ? 1 : 0, 1);
    }

    private void staticFields() {
        Matcher m = Pattern.compile("\\bstatic (?!final class|class)([^;(){]*)[;=]").matcher(code);
        int fields = 0;
        while (m.find()) {
            fields++;
            check.due(m.group(), m.group(1).startsWith("final ") ? 1 : 0, 1);
        }
        check.due("constants were found", fields > 1 ? 1 : 0, 1);
    }
}
