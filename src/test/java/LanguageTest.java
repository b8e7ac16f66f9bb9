import java.io.IOException;
import java.nio.file.Files;
import java.nio.file.Path;
import java.util.regex.Matcher;
import java.util.regex.Pattern;

/** Those rules of LANGUAGE.md that can be read off the words of the source. Run from the root. */
public final class LanguageTest {
    private static final Path SOURCE = Path.of("src/main/java/JobServer.java");
    private static final Due due = new Due();

    public static void main(String[] args) throws IOException {
        String code = withoutComments(Files.readString(SOURCE));
        noWord(code, "import|package|class(?! JobServer)|interface|enum|record|extends|implements");
        noWord(code, "float|double|String|Object|Math|Integer|Long|System|Arrays|null|var");
        noWord(code, "throw|throws|try|catch|finally|synchronized|assert|instanceof|volatile");
        noWord(code, "protected|native|abstract");
        none(code, "->|::|\\[\\]\\s*\\[|\"", "lambda, method reference, two dimensions or text");
        none(code, "(?m)^(?! {4}private final ).*\\bnew\\b", "array made outside a field");
        none(code, "\\bstatic\\s*\\{", "static initialiser");
        noCallInsideArguments(code);
        due.end();
    }

    private static String withoutComments(String source) {
        return source.replaceAll("(?s)/\\*.*?\\*/", "").replaceAll("//[^\\n]*", "");
    }

    private static void noWord(String code, String words) {
        none(code, "\\b(" + words + ")\\b", "forbidden word");
    }

    private static void none(String code, String pattern, String what) {
        Matcher matcher = Pattern.compile(pattern).matcher(code);
        due.same(what, matcher.find() ? matcher.group() : "none", "none");
    }

    private static void noCallInsideArguments(String code) {
        Pattern keywords = Pattern.compile("if|for|while|switch|return");
        Matcher call = Pattern.compile("(\\w+)\\(").matcher(code);
        while (call.find()) {
            if (!keywords.matcher(call.group(1)).matches()) {
                String arguments = code.substring(call.end(), closing(code, call.end()));
                none(arguments, "\\w+\\(", "call inside the arguments of " + call.group(1));
            }
        }
    }

    private static int closing(String code, int from) {
        int open = 1;
        int at = from;
        while (open > 0) {
            open += code.charAt(at) == '(' ? 1 : code.charAt(at) == ')' ? -1 : 0;
            at++;
        }
        return at - 1;
    }
}
