import java.io.IOException;
import java.nio.file.DirectoryStream;
import java.nio.file.Files;
import java.nio.file.Path;
import java.util.ArrayList;
import java.util.List;
import java.util.regex.Matcher;
import java.util.regex.Pattern;

/** Each sentence of the document's Terms and promises (and that of 512 calls) is one that a boundary test names, and what they name stands there once. */
public final class SentencesTest {
    private static final Due DUE = new Due();
    private static final Path DOCUMENT = Path.of("../shared/DOC.md");
    private static final Pattern CALL = Pattern.compile("DUE\\.sentence\\(((?:\\s*\\+?\\s*\"(?:[^\"\\\\]|\\\\.)*\")+)\\)");
    private static final Pattern TEXT = Pattern.compile("\"((?:[^\"\\\\]|\\\\.)*)\"");
    private static final Pattern BORDER = Pattern.compile("(?<=[^.]\\.|\\.\\)) (?=[A-Z(`]|0 when|2 a FRACTION|h is ABSENT|## )");

    public static void main(String[] args) throws IOException {
        String document = plain(Files.readString(DOCUMENT));
        List<String> named = named();
        boolean[] seen = new boolean[document.length()];
        for (String words : named) {
            int at = document.indexOf(words);
            DUE.is("where '" + words + "' stands", at >= 0, true);
            DUE.is("where '" + words + "' stands once more", at < 0 ? -1 : document.indexOf(words, at + 1), -1);
            for (int i = 0; at >= 0 && i < words.length(); i++) {
                seen[at + i] = true;
            }
        }
        int at = 0;
        int count = 0;
        for (String sentence : BORDER.split(document)) {
            count += isHeading(sentence) ? 0 : 1;
            DUE.is("a test of '" + sentence + "'", isHeading(sentence) || anyOf(seen, at, sentence.length()), true);
            at += sentence.length() + 1;
        }
        DUE.is("there are sentences", count > 100, true);
        DUE.close(named.size() + " tests name all " + count + " sentences");
    }

    /** The sentence of 512 calls, Terms and promises in one line. */
    private static String plain(String document) {
        String part = between(document, "An object is used", "## The public face") + between(document, "## Terms", "## Not promised");
        String headless = part.replaceAll("(?m)^```.*$", " ").replaceAll("(?m)^(## .*)$", "$1. ");
        return headless.replaceAll("\\s+", " ").trim();
    }

    private static String between(String document, String first, String last) {
        int from = document.indexOf(first);
        int to = document.indexOf(last);
        return from < 0 || to < from ? "" : document.substring(from, to);
    }

    private static boolean isHeading(String sentence) {
        return sentence.startsWith("## ") || sentence.split(" ").length < 3 && !sentence.contains("(");
    }

    private static boolean anyOf(boolean[] seen, int from, int length) {
        for (int i = from; i < from + length && i < seen.length; i++) {
            if (seen[i]) {
                return true;
            }
        }
        return false;
    }

    private static List<String> named() throws IOException {
        List<String> all = new ArrayList<>();
        try (DirectoryStream<Path> files = Files.newDirectoryStream(Path.of("src/test/java"), "*BoundariesTest.java")) {
            for (Path file : files) {
                Matcher call = CALL.matcher(Files.readString(file));
                while (call.find()) {
                    Matcher text = TEXT.matcher(call.group(1));
                    StringBuilder words = new StringBuilder();
                    while (text.find()) {
                        words.append(text.group(1).replace("\\\"", "\""));
                    }
                    all.add(words.toString());
                }
            }
        }
        return all;
    }
}
