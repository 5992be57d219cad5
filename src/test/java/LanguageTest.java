import java.io.IOException;
import java.nio.file.Files;
import java.nio.file.Path;
import java.util.List;
import java.util.regex.Matcher;
import java.util.regex.Pattern;

/** Rules of LANGUAGE.md that can be seen in the words of the program. */
public final class LanguageTest {
    private static final Due DUE = new Due();
    private static final int MOST_LINES = 60;

    private static final String[] FORBIDDEN = {
        "throw", "throws", "try", "catch", "synchronized", "assert", "package", "native", "volatile", "transient",
        "hashCode", "toString", "Object", "Random", "System\\.(?!arraycopy)", "Thread", "->", "::", "Exact\\b",
        "import (?!java\\.util\\.Arrays;)", "new \\w+(<.*>)?\\([^;{]*\\)\\s*\\{", "while \\(true\\)", "for \\(;;"
    };
    private static final String[] LIBRARY = {
        "Math.(?!abs|max|min|floorMod)", "Long.(?!compare|MAX_VALUE)", "Integer.(?!bitCount)", "Arrays.(?!fill|copyOf)"
    };

    public static void main(String[] args) throws IOException {
        List<String> lines = Files.readAllLines(Path.of("src/main/java/CrystalHouse.java"));
        StringBuilder code = new StringBuilder();
        for (String line : lines) {
            String bare = line.replaceAll("//.*", "").replaceAll("/\\*\\*.*\\*/", "");
            code.append(bare.trim().startsWith("*") || bare.trim().startsWith("/*") ? "" : bare).append('\n');
        }
        for (String word : FORBIDDEN) {
            none(code, Character.isLetter(word.charAt(0)) ? "\\b" + word + (word.matches("\\w+") ? "\\b" : "") : word);
        }
        for (String word : LIBRARY) {
            none(code, "\\b" + word.replace(".(", "\\.("));
        }
        longMethods(lines);
        DUE.close("the words are within the language");
    }

    private static void none(CharSequence code, String pattern) {
        Matcher matcher = Pattern.compile(pattern).matcher(code);
        DUE.is("of '" + pattern + "'" , matcher.find() ? matcher.group() : "none", "none");
    }

    /** A method begins in a column of 4 or 8 with a bracket behind its parameters, and ends in the same column. */
    private static void longMethods(List<String> lines) {
        for (String indent : new String[] {"    ", "        "}) {
            int start = -1;
            for (int i = 0; i < lines.size(); i++) {
                String line = lines.get(i);
                if (line.matches(indent + "\\w.*\\) \\{") && !line.matches(indent + "(if|for|while|switch|do) .*")) {
                    start = i;
                } else if (line.equals(indent + "}") && start >= 0) {
                    DUE.is("lines of '" + lines.get(start).trim() + "'", i - start < MOST_LINES, true);
                    start = -1;
                }
            }
        }
    }
}
