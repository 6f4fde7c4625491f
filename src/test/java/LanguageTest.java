import java.io.IOException;
import java.nio.file.Files;
import java.nio.file.Path;
import java.util.regex.Matcher;
import java.util.regex.Pattern;

/** Those rules of LANGUAGE.md that can be checked on the words of the source. */
public final class LanguageTest {
    private static final String SOURCE = "src/main/java/OrderedKeys.java";
    private static final int MOST_LINES = 60;
    private static final Pattern CALL =
            Pattern.compile("\\b(?!(?:if|for|while|switch|return)\\b)[A-Za-z]\\w*\\s*\\(");

    private static int wrong = 0;

    public static void main(String[] args) throws IOException {
        String source = withoutComments(Files.readString(Path.of(SOURCE)));
        absent(source, 1, "\\b(package|interface|enum|record|protected|extends|implements)\\b");
        absent(source, 2, "\\b(float|double|String|var)\\b|\"|\\[\\s*\\]\\s*\\[|\\d\\.\\d");
        absent(source, 3, "\\b(import|Math|Integer|Long|System|Arrays|Object|java)\\b");
        absent(source, 3, "\\b(equals|hashCode|getClass|clone|toString|wait|notify)\\s*\\(");
        absent(source, 4, "\\bnull\\b|\\bnew\\s+\\w+\\s*\\(|\\.length\\b");
        absent(source, 5, "\\bstatic\\s*\\{|\\bstatic\\b[^;({]*\\[");
        absent(source, 6, "\\b(throw|throws|try|catch|synchronized|assert|instanceof)\\b|->|::");
        noCallInsideArguments(source);
        arraysAreMadeByFields(source);
        methodsStayShort(source);
        System.out.println(wrong == 0 ? "the rules are kept" : wrong + " rules are broken");
        if (wrong != 0) {
            System.exit(1);
        }
    }

    private static String withoutComments(String source) {
        return source.replaceAll("(?s)/\\*.*?\\*/", "").replaceAll("//[^\n]*", "");
    }

    private static void fault(int rule, String what) {
        wrong++;
        System.out.println("rule " + rule + ": " + what);
    }

    private static void absent(String source, int rule, String pattern) {
        Matcher found = Pattern.compile(pattern).matcher(source);
        while (found.find()) {
            fault(rule, found.group());
        }
    }

    private static void noCallInsideArguments(String source) {
        Matcher call = CALL.matcher(source);
        while (call.find()) {
            String arguments = source.substring(call.end(), closing(source, call.end()));
            if (CALL.matcher(arguments).find()) {
                fault(10, call.group() + arguments + ")");
            }
        }
    }

    /** Where the parenthesis that was opened just before this place is closed. */
    private static int closing(String source, int place) {
        int open = 1;
        int i = place;
        while (i < source.length()) {
            open += source.charAt(i) == '(' ? 1 : source.charAt(i) == ')' ? -1 : 0;
            if (open == 0) {
                break;
            }
            i++;
        }
        return i;
    }

    private static void arraysAreMadeByFields(String source) {
        for (String line : source.split("\n")) {
            boolean field = line.matches(" {4}private final \\w+\\[\\] \\w+ = new \\w+\\[\\w+\\];");
            if (line.matches(".*\\bnew\\b.*") && !field) {
                fault(4, line.trim());
            }
        }
    }

    private static void methodsStayShort(String source) {
        int start = 0;
        String[] lines = source.split("\n");
        for (int i = 0; i < lines.length; i++) {
            if (lines[i].matches(" {4}\\S.*\\{")) {
                start = i;
            }
            if (lines[i].equals("    }") && i - start >= MOST_LINES) {
                fault(10, lines[start].trim());
            }
        }
    }
}
