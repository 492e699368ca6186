import java.io.IOException;
import java.nio.file.DirectoryStream;
import java.nio.file.Files;
import java.nio.file.Path;
import java.util.Arrays;
import java.util.Set;
import java.util.TreeSet;
import java.util.regex.Matcher;
import java.util.regex.Pattern;

/** Each sentence of the document that says how the class answers is quoted by a test, so none is left out. */
public final class DocumentTest extends Check {
    private static final Pattern LITERAL = Pattern.compile("\"((?:[^\"\\\\\n]|\\\\.)*)\"");
    // shorter texts are names of calls, which say nothing of the sentence in which they stand
    private static final int SHORTEST = 12;

    private static Set<String> quotes() throws IOException {
        Set<String> quotes = new TreeSet<>();
        try (DirectoryStream<Path> files = Files.newDirectoryStream(Path.of("src/test/java"), "*Test.java")) {
            for (Path file : files) {
                Matcher literal = LITERAL.matcher(Files.readString(file).replaceAll("\"\\s*\\+\\s*\"", ""));
                while (literal.find()) {
                    String text = literal.group(1).replace("\\\"", "\"");
                    if (text.length() >= SHORTEST) {
                        quotes.add(text);
                    }
                }
            }
        }
        return quotes;
    }

    /** What is left of a text without the words that are quoted. */
    private static String unquoted(String text, Set<String> quotes) {
        char[] left = text.toCharArray();
        for (String quote : quotes) {
            for (int at = text.indexOf(quote); at >= 0; at = text.indexOf(quote, at + 1)) {
                Arrays.fill(left, at, at + quote.length(), ' ');
            }
        }
        return new String(left).replaceAll("[^\\p{Alnum}]+", " ").strip();
    }

    /** A line of its own for each paragraph and each parameter, without the faces of the calls. */
    private static String[] paragraphs(String document) {
        String text = document.substring(document.indexOf("## Terms"), document.indexOf("## Not promised"));
        text = text.replaceAll("(?m)^## .*$|<h2>.*</h2>", "\n").replaceAll("(?m)^`[^`]*`: ", "\n");
        // a parameter with nothing behind its name says nothing that the call does not say
        text = text.replaceAll("(?m)^- `\\w+`: (the|one|the other) \\w+( level)?$", "\n").replaceAll("(?m)^- ", "\n");
        return text.strip().split("\n\\s*\n");
    }

    public static void main(String[] args) throws Exception {
        Set<String> quotes = quotes();
        String[] paragraphs = paragraphs(Files.readString(Path.of("../shared/DOC.md")));
        same("paragraphs are found", paragraphs.length > 190, true);
        for (String paragraph : paragraphs) {
            String text = paragraph.replaceAll("\\s+", " ").strip();
            same("what no test quotes of: " + text, unquoted(text, quotes), "");
        }
        end("DocumentTest");
    }
}
