import java.io.IOException;
import java.nio.file.DirectoryStream;
import java.nio.file.Files;
import java.nio.file.Path;
import java.util.regex.Matcher;
import java.util.regex.Pattern;

/**
 * The words that the tests quote must stand in the document, and a test of the document must begin
 * with such words. Run from the project's root.
 */
public final class QuotesTest {
    private static final Path DOCUMENT = Path.of("../shared/DOC.md");
    private static final Path TESTS = Path.of("src/test/java");

    // One text, or several joined by plus signs, handed to sentence().
    private static final Pattern QUOTE = Pattern.compile("due\\.sentence\\(((?:[\\s+]*"
            + "\"(?:[^\"\\\\]|\\\\.)*\")+)");
    private static final Pattern PIECE = Pattern.compile("\"((?:[^\"\\\\]|\\\\.)*)\"");

    // The names of the tests that go through the document sentence by sentence.
    private static final Pattern OF_SENTENCES = Pattern.compile("(Promise|Terms|WhatItIs).*");
    private static final Pattern CALL_IN_MAIN = Pattern.compile("(?m)^ {8}(\\w+)\\(\\);$");

    private static final Due due = new Due();

    public static void main(String[] args) throws IOException {
        String document = plain(Files.readString(DOCUMENT));
        try (DirectoryStream<Path> files = Files.newDirectoryStream(TESTS, "*Test.java")) {
            for (Path file : files) {
                String source = Files.readString(file);
                quotesStandThere(file, source, document);
                if (OF_SENTENCES.matcher(file.getFileName().toString()).matches()) {
                    everyFunctionBeginsWithAQuote(file, source);
                }
            }
        }
        due.end();
    }

    private static void quotesStandThere(Path file, String source, String document) {
        Matcher quote = QUOTE.matcher(source);
        while (quote.find()) {
            String words = joined(quote.group(1));
            due.is(file + ": '" + words + "' in the document", document.contains(words), true);
        }
    }

    private static void everyFunctionBeginsWithAQuote(Path file, String source) {
        String main = source.substring(source.indexOf(" main("), source.indexOf("due.end();"));
        Matcher call = CALL_IN_MAIN.matcher(main);
        int calls = 0;
        while (call.find()) {
            String name = call.group(1);
            Pattern first = Pattern.compile(" " + name + "\\(\\) \\{\\s*due\\.sentence\\(");
            due.is(file + ": " + name + " begins so", first.matcher(source).find(), true);
            calls++;
        }
        due.is(file + ": no function found", calls == 0, false);
    }

    private static String joined(String pieces) {
        StringBuilder all = new StringBuilder();
        Matcher piece = PIECE.matcher(pieces);
        while (piece.find()) {
            all.append(piece.group(1));
        }
        return plain(all.toString());
    }

    /** Without the marks of Markdown, and with single blanks. */
    private static String plain(String text) {
        return text.replaceAll("[`*]", "").replaceAll("\\s+", " ");
    }
}
