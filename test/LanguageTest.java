import java.io.IOException;
import java.nio.file.Files;
import java.nio.file.Path;
import java.util.List;
import java.util.regex.Matcher;
import java.util.regex.Pattern;

/** What of LANGUAGE.md a look at the text of the program can tell: words that it must not have, and what is too long. */
public final class LanguageTest {
    private static final Path SOURCE = Path.of("src", "main", "java", "NotionRounds.java");
    private static final int LONGEST_METHOD = 60;
    private static final int MOST_PARAMETERS = 7;

    /** The rule's number, and what breaks it. */
    private static final String[][] BROKEN_BY = {
        {"1", "\\bpackage\\b"}, {"1", "\\bprotected\\b"},
        {"2", "->"}, {"2", "::"},
        {"3", "\\bObject\\b"}, {"3", "\\bvar\\b"},
        {"4", "\\bimport\\b"}, {"4", "\\w+Exact\\b"}, {"4", "\\bjava\\."}, {"4", "\\bSystem\\.(?!arraycopy\\b)"},
        {"4", "[^\\x01-\\x7e]"},
        {"6", "\\b(throw|throws|try|catch|finally|synchronized|assert)\\b"}, {"6", "\\b(hashCode|toString)\\b"},
        {"9", "while \\(true\\)"}, {"9", "for \\(;;\\)"},
        {"10", "\"\\s*\\+|\\+\\s*\""},
        {"13", "\\b(Thread|Random|Runtime|currentTimeMillis|nanoTime)\\b"}
    };

    private static final Due due = new Due("LanguageTest");

    public static void main(String[] args) throws IOException {
        oneFile();
        String code = withoutComments(Files.readString(SOURCE));
        for (String[] broken : BROKEN_BY) {
            Matcher found = Pattern.compile(broken[1]).matcher(code);
            due.is("rule " + broken[0] + ": " + broken[1] + " is found", found.find() ? 1 : 0, 0);
        }
        List<String> lines = code.lines().toList();
        methods(lines, "    ");
        methods(lines, "        ");
        rowsAreMadeWithTheObject(lines);
        due.end();
    }

    private static void oneFile() throws IOException {
        try (var files = Files.walk(Path.of("src"))) {
            due.is("files of the program", files.filter(Files::isRegularFile).count(), 1);
        }
    }

    private static String withoutComments(String text) {
        return text.replaceAll("(?s)/\\*.*?\\*/", "").replaceAll("//[^\n]*", "");
    }

    /** Rule 11: methods that begin at this indent. */
    private static void methods(List<String> lines, String indent) {
        Pattern head = Pattern.compile(indent + "[a-z][\\w\\[\\] ]* \\w+\\(([^()]*)\\) \\{");
        for (int i = 0; i < lines.size(); i++) {
            Matcher found = head.matcher(lines.get(i));
            if (found.matches()) {
                int end = lines.subList(i, lines.size()).indexOf(indent + "}");
                due.is("rule 11: lines of" + lines.get(i), end > LONGEST_METHOD || end < 0 ? end : 0, 0);
                int parameters = found.group(1).split(",").length;
                due.is("rule 11: parameters of" + lines.get(i), parameters > MOST_PARAMETERS ? parameters : 0, 0);
            }
        }
    }

    /** Rule 12, and the one room of all calls: what is made is held by a field. */
    private static void rowsAreMadeWithTheObject(List<String> lines) {
        for (String line : lines) {
            boolean made = line.contains("new ");
            boolean held = line.matches("        private final \\w+\\[\\] \\w+ = new .*|        [a-z]\\w* = new [A-Z]\\w*\\(.*\\);");
            due.is("a row or an object that no field holds:" + line, made && !held ? 1 : 0, 0);
        }
    }
}
