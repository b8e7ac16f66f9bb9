import java.io.IOException;
import java.nio.file.Files;
import java.nio.file.Path;
import java.util.LinkedHashMap;
import java.util.Map;
import java.util.regex.Matcher;
import java.util.regex.Pattern;

/** Those rules of LANGUAGE.md that can be read off the words of the source. Run from the root. */
public final class LanguageTest {
    private static final Path SOURCE = Path.of("src/main/java/JobServer.java");
    private static final Due due = new Due();

    public static void main(String[] args) throws IOException {
        String code = withoutComments(Files.readString(SOURCE));
        noWord(code, "import|package|class(?! JobServer)|interface|enum|record|extends|implements");
        noWord(code, "float|double|String|Object|Math|Integer|Long|System|Arrays|null|var");
        noWord(code, "throw|throws|try|catch|finally|synchronized|assert|instanceof|volatile");
        noWord(code, "protected|native|abstract");
        noWord(code, "equals|hashCode|toString|getClass|clone|finalize|notify|notifyAll|wait");
        none(code, "\\.", "dot, which would name a member of another class");
        none(code, "->|::|\\[\\]\\s*\\[|\"", "lambda, method reference, two dimensions or text");
        none(code, "(?m)^(?! {4}private final ).*\\bnew\\b", "array made outside a field");
        none(code, "\\bnew\\b(?! (int|boolean)\\[MAX_\\w+\\];).*", "array of another length");
        none(code, "(?m)^ {4}(public|private)[^=;(]*\\[\\][^=;(]*\\(", "method answering an array");
        none(code, "\\bstatic\\s*\\{", "static initialiser");
        noCallInsideArguments(code);
        everyLoopCounts(code);
        fewFields(code);
        Map<String, String> bodies = methodBodies(code);
        for (String name : bodies.keySet()) {
            int lines = bodies.get(name).split("\n").length;
            due.is(name + " of more than 60 lines", lines > 60, false);
            due.is(name + " with calls more than six deep", depth(bodies, name, 1) > 6, false);
        }
        due.end();
    }

    private static String withoutComments(String source) {
        return source.replaceAll("(?s)/\\*.*?\\*/", "").replaceAll("//[^\\n]*", "");
    }

    private static void noWord(String code, String words) {
        none(code, "\\b(" + words + ")\\b", "forbidden word");
    }

    private static void none(String code, String pattern, String what) {
        Matcher matcher = Pattern.compile(pattern).matcher(code);
        due.same(what, matcher.find() ? matcher.group() : "none", "none");
    }

    private static void noCallInsideArguments(String code) {
        Pattern keywords = Pattern.compile("if|for|while|switch|return");
        Matcher call = Pattern.compile("(\\w+)\\(").matcher(code);
        while (call.find()) {
            if (!keywords.matcher(call.group(1)).matches()) {
                String arguments = code.substring(call.end(), closing(code, call.end()));
                none(arguments, "\\w+\\(", "call inside the arguments of " + call.group(1));
            }
        }
    }

    private static int closing(String code, int from) {
        int open = 1;
        int at = from;
        while (open > 0) {
            open += code.charAt(at) == '(' ? 1 : code.charAt(at) == ')' ? -1 : 0;
            at++;
        }
        return at - 1;
    }

    /** Stricter than the rule asks, but so the end of each loop can be read off its first line. */
    private static void everyLoopCounts(String code) {
        noWord(code, "while|do");
        Pattern counted = Pattern.compile("for \\(int (\\w+) = 0; (\\w+ && )?\\1 <=? "
                + "(MAX_TARGETS|targetCount); \\1\\+\\+\\) \\{");
        Matcher loop = Pattern.compile("\\bfor\\b.*").matcher(code);
        while (loop.find()) {
            due.is(loop.group(), counted.matcher(loop.group()).matches(), true);
        }
    }

    private static void fewFields(String code) {
        int fields = 0;
        Matcher field = Pattern.compile("(?m)^ {4}private (?!static)[^(]*;$").matcher(code);
        while (field.find()) {
            fields++;
        }
        due.is("no field found", fields == 0, false);
        due.is("more than 40 fields", fields > 40, false);
    }

    private static Map<String, String> methodBodies(String code) {
        Map<String, String> bodies = new LinkedHashMap<>();
        Pattern method = Pattern.compile("(?ms)^ {4}(?:public|private)[^=;(]*?(\\w+)\\(([^)]*)\\) "
                + "\\{$(.*?)^ {4}\\}$");
        Matcher matcher = method.matcher(code);
        while (matcher.find()) {
            String name = matcher.group(1);
            due.is(name + " declared twice", bodies.containsKey(name), false);
            due.is(name + " of many parameters", matcher.group(2).split(",").length > 7, false);
            bodies.put(name, matcher.group(3));
        }
        due.is("start() found", bodies.containsKey("start"), true);
        return bodies;
    }

    /** Stops a little beyond the six that are allowed, so that recursion ends as well. */
    private static int depth(Map<String, String> bodies, String name, int sofar) {
        int deepest = sofar;
        for (String called : bodies.keySet()) {
            Pattern call = Pattern.compile("\\b" + called + "\\(");
            if (sofar <= 6 && call.matcher(bodies.get(name)).find()) {
                deepest = Math.max(deepest, depth(bodies, called, sofar + 1));
            }
        }
        return deepest;
    }
}
