import java.io.File;
import java.io.IOException;
import java.lang.reflect.Field;
import java.lang.reflect.Method;
import java.lang.reflect.Modifier;
import java.nio.file.DirectoryStream;
import java.nio.file.Files;
import java.nio.file.Path;
import java.util.ArrayList;
import java.util.List;
import java.util.regex.Matcher;
import java.util.regex.Pattern;

/** The example, the commands and the names in README.md must hold. Run from the project's root. */
public final class ReadmeTest {
    private static final Path TESTS = Path.of("src/test/java");
    private static final Due due = new Due();

    private static String readme;

    public static void main(String[] args) throws IOException, InterruptedException {
        readme = Files.readString(Path.of("README.md"));
        theExamplePrintsWhatItSays();
        theScriptCanBeRun();
        oneTestCanBeRunAlone();
        allFilesNamedAreThere();
        allTestsAreNamed();
        allOfTheFaceIsNamed();
        due.end();
    }

    /** The blocks of README.md that are marked with this word. */
    private static List<String> blocks(String mark) {
        List<String> found = new ArrayList<>();
        Matcher block = Pattern.compile("(?s)```" + mark + "\n(.*?)```").matcher(readme);
        while (block.find()) {
            found.add(block.group(1));
        }
        return found;
    }

    private static void theExamplePrintsWhatItSays() throws IOException, InterruptedException {
        due.is("java blocks", blocks("java").size(), 1);
        due.is("text blocks", blocks("text").size(), 1);
        Path root = copyOfTheSources();
        Files.writeString(root.resolve("Example.java"), blocks("java").get(0));
        due.same("the example", output(root, blocks("sh").get(0)), blocks("text").get(0));
        remove(root);
    }

    private static void theScriptCanBeRun() {
        due.same("the command for all tests", blocks("sh").get(1), ".ci/run\n");
        due.is(".ci/run can be run", Files.isExecutable(Path.of(".ci/run")), true);
    }

    private static void oneTestCanBeRunAlone() throws IOException, InterruptedException {
        due.is("sh blocks", blocks("sh").size(), 3);
        Path root = copyOfTheSources();
        String printed = output(root, blocks("sh").get(2));
        due.is("one test alone: " + printed, printed.endsWith(", 0 not as due\n"), true);
        remove(root);
    }

    /** A copy, so that what the commands leave behind is not left in the project. */
    private static Path copyOfTheSources() throws IOException {
        Path root = Files.createTempDirectory("readme");
        for (String folder : new String[] {"src/main/java", "src/test/java"}) {
            Files.createDirectories(root.resolve(folder));
            try (DirectoryStream<Path> files = Files.newDirectoryStream(Path.of(folder))) {
                for (Path file : files) {
                    Files.copy(file, root.resolve(file));
                }
            }
        }
        return root;
    }

    /** What the commands print, each of which must end with exit code 0. */
    private static String output(Path root, String commands)
            throws IOException, InterruptedException {
        File printed = File.createTempFile("printed", ".txt");
        for (String command : commands.split("\n")) {
            Process run = new ProcessBuilder(command.split(" ")).directory(root.toFile())
                    .redirectErrorStream(true)
                    .redirectOutput(ProcessBuilder.Redirect.appendTo(printed)).start();
            due.is("exit code of " + command, run.waitFor(), 0);
        }
        String text = Files.readString(printed.toPath());
        Files.delete(printed.toPath());
        return text;
    }

    private static void remove(Path root) throws IOException {
        List<Path> all;
        try (var tree = Files.walk(root)) {
            all = new ArrayList<>(tree.toList());
        }
        // A folder comes before what it holds, so from the end on.
        for (int i = all.size() - 1; i >= 0; i--) {
            Files.delete(all.get(i));
        }
    }

    private static void allFilesNamedAreThere() {
        Matcher path = Pattern.compile("`((?:src|\\.\\./shared|\\.ci)[\\w./]*)`").matcher(readme);
        int paths = 0;
        while (path.find()) {
            due.is(path.group(1) + " is there", Files.exists(Path.of(path.group(1))), true);
            paths++;
        }
        due.is("no path found", paths == 0, false);
        Matcher name = Pattern.compile("`(\\w+Test|Due|Model)(?:\\.java)?`").matcher(readme);
        while (name.find()) {
            boolean there = Files.exists(TESTS.resolve(name.group(1) + ".java"));
            due.is(name.group(1) + " is there", there, true);
        }
    }

    private static void allTestsAreNamed() throws IOException {
        try (DirectoryStream<Path> files = Files.newDirectoryStream(TESTS)) {
            for (Path file : files) {
                String name = file.getFileName().toString().replace(".java", "");
                // Those of the promises are named by the first and the last.
                boolean named = readme.contains("`" + name) || name.matches("Promise\\d\\d\\w+");
                due.is(name + " is named", named, true);
            }
        }
    }

    private static void allOfTheFaceIsNamed() {
        for (Method method : JobServer.class.getDeclaredMethods()) {
            if (Modifier.isPublic(method.getModifiers())) {
                due.is(method.getName() + " is named",
                        readme.contains("| `" + method.getName() + "("), true);
            }
        }
        for (Field constant : JobServer.class.getFields()) {
            due.is(constant.getName() + " is named with its value", isNamed(constant), true);
        }
    }

    private static boolean isNamed(Field constant) {
        try {
            int value = constant.getInt(null);
            return Pattern.compile("`" + constant.getName() + "` (is |\\()?" + value + "\\b")
                    .matcher(readme).find();
        } catch (IllegalAccessException hidden) {
            return false;
        }
    }
}
