import java.io.IOException;
import java.nio.file.Files;
import java.nio.file.Path;
import java.util.List;
import java.util.Set;
import java.util.TreeSet;
import java.util.regex.Matcher;
import java.util.regex.Pattern;

/** What a reading of the source can tell of LANGUAGE.md's rules: words, library, lengths, and arrays made by calls. */
public final class LanguageTest {
    private static final Path SOURCE = Path.of("src/main/java/AnchorChains.java");
    private static final List<String> WORDS_AND_SIGNS = List.of("import", "package", "try", "catch", "finally",
            "synchronized", "assert", "native", "volatile", "transient", "strictfp", "protected", "var", "->", "::",
            "lambda", "Object", "getClass", "hashCode", "toString", "equals", "@");
    private static final Set<String> LIBRARY = Set.of("Math.max", "Math.min", "Math.abs");
    private static final Set<String> NAMES = Set.of("AnchorChains", "Cells", "Row", "State", "History", "Text",
            "Anchors", "Chain", "Grid", "Lineup", "Turnings", "Math", "String", "IndexOutOfBoundsException",
            "IllegalArgumentException", "IllegalStateException");

    public static void main(String[] args) throws IOException {
        String source = Files.readString(SOURCE);
        String bare = source.replaceAll("(?s)/\\*.*?\\*/", " ").replaceAll("//[^\n]*", " ");
        String code = bare.replaceAll("\"[^\"\n]*\"", "\"\"").replaceAll("'[^'\n]*'", "' '");
        words(code);
        names(code);
        library(code);
        texts(bare);
        madeOnlyInConstructors(code);
        methodLengths(source);
        Due.end();
    }

    private static void words(String code) {
        for (String word : WORDS_AND_SIGNS) {
            String pattern = Character.isLetter(word.charAt(0)) ? "\\b" + word + "\\b" : Pattern.quote(word);
            Due.same("uses " + word, Pattern.compile(pattern).matcher(code).find() ? 1 : 0, 0);
        }
    }

    private static void names(String code) {
        Set<String> others = new TreeSet<>();
        Matcher name = Pattern.compile("\\b[A-Z][a-zA-Z]*[a-z][a-zA-Z]*\\b").matcher(code);
        while (name.find()) {
            if (!NAMES.contains(name.group())) {
                others.add(name.group());
            }
        }
        Due.same("names of other classes", others.toString(), "[]");
    }

    private static void library(String code) {
        Matcher call = Pattern.compile("\\b(Math|String)\\.\\w+").matcher(code);
        while (call.find()) {
            Due.same(call.group() + " is in the list", LIBRARY.contains(call.group()) ? 1 : 0, 1);
        }
    }

    private static void texts(String code) {
        Matcher thrown = Pattern.compile("throw\\s+([^;]*);").matcher(code);
        while (thrown.find()) {
            Due.same(thrown.group() + " is written plainly",
                    thrown.group(1).matches("new \\w+\\(\"[^\"]*\"\\)") ? 1 : 0, 1);
        }
    }

    /** All that a call needs is made with the object, so that a run of calls makes nothing more. */
    private static void madeOnlyInConstructors(String code) {
        for (String line : code.split("\n")) {
            if (line.contains("new ") && !line.contains("throw new")) {
                boolean field = line.matches("\\s+(private )?(static )?final \\w+(\\[\\])? \\w+ = new .*;");
                boolean cells = line.trim().equals("numbers = new int[length < 0 ? 0 : length];");
                Due.same("made in a call: " + line.trim(), field || cells ? 1 : 0, 1);
            }
        }
    }

    private static void methodLengths(String source) {
        String[] lines = source.split("\n");
        int start = -1;
        for (int i = 0; i < lines.length; i++) {
            if (start < 0 && lines[i].matches("(    |        )[a-z].*\\)( \\{)?|(    |        )[a-zA-Z].*\\) \\{")) {
                start = i;
            } else if (start >= 0 && lines[i].matches("(    |        )\\}")) {
                Due.same("lines of " + lines[start].trim(), i - start < 60 ? 1 : 0, 1);
                start = -1;
            }
        }
        Due.same("lines of the longest width", widest(lines) <= 120 ? 1 : 0, 1);
    }

    private static int widest(String[] lines) {
        int widest = 0;
        for (String line : lines) {
            widest = Math.max(widest, line.length());
        }
        return widest;
    }
}
