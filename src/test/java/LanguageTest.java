import java.io.IOException;
import java.nio.file.Files;
import java.nio.file.Path;
import java.util.regex.Matcher;
import java.util.regex.Pattern;

/** Rules 3, 4, 6 and 11 of LANGUAGE.md as far as the words of the program show them. */
final class LanguageTest {
    private static final String[] FORBIDDEN = {"package", "throw", "throws", "try", "catch", "finally", "synchronized",
        "assert", "volatile", "transient", "native", "strictfp", "yield", "var", "Object", "System.out", "System.err",
        "System.exit", "Thread", "Random", "hashCode", "toString", "equals", "instanceof", "interface", "sealed"};

    private LanguageTest() {
    }

    public static void main(String[] args) throws IOException {
        String source = Files.readString(Path.of("src/main/java/CoverShares.java"));
        for (char sign : source.toCharArray()) {
            if (sign > 126) {
                Due.is("a sign of the program", sign, 126);
            }
        }
        String code = source.replaceAll("(?s)/\\*.*?\\*/", "").replaceAll("//[^\n]*", "");
        code = code.replaceAll("\"[^\"\n]*\"", "\"\"").replaceAll("'[^'\n]*'", "' '");
        for (String word : FORBIDDEN) {
            Due.is("how often there is " + word, times(code, "\\b" + Pattern.quote(word) + "\\b"), 0);
        }
        Due.is("lambdas, arrows and method references", times(code, "->|::"), 0);
        Due.is("functions whose name ends in Exact", times(code, "Exact\\("), 0);
        Due.is("imports beside Arrays", times(code, "import (?!java\\.util\\.Arrays;)"), 0);
        Due.is("joined texts", times(code, "\"\" *\\+|\\+ *\"\""), 0);
        Due.is("while loops without a counter", times(code, "\\bwhile\\b"), 0);
        Due.is("more classes than twelve", times(code, "\\bclass\\b") > 12 ? 1 : 0, 0);
        longMethods(code);
        madeInConstructorsAlone(code);
        Due.end("LanguageTest");
    }

    private static int times(String code, String pattern) {
        Matcher matcher = Pattern.compile(pattern).matcher(code);
        int times = 0;
        while (matcher.find()) {
            times++;
        }
        return times;
    }

    private static void longMethods(String code) {
        Matcher matcher = Pattern.compile("(?ms)^( {4}| {8})(\\w[^\n;=]*\\([^\n]*\\)) \\{\n(.*?)^\\1\\}").matcher(code);
        int methods = 0;
        while (matcher.find()) {
            methods++;
            Due.is("longer than 60 lines is " + matcher.group(2), matcher.group(3).split("\n").length > 60 ? 1 : 0, 0);
        }
        Due.is("methods are found", methods > 60 ? 1 : 0, 1);
    }

    /** Rule 12, as README.md tells it: nothing is made but by fields' initialisers and in rows that constructors fill. */
    private static void madeInConstructorsAlone(String code) {
        int made = 0;
        for (String line : code.split("\n")) {
            if (line.matches(".*\\bnew\\b.*")) {
                made++;
                boolean field = line.matches(" {4}( {4})?private final .* = new .*;");
                boolean row = line.matches(" {16}states\\[\\w+\\] = new State\\(\\);");
                Due.is("made by the constructor is" + line, field || row ? 1 : 0, 1);
            }
        }
        Due.is("something is made", made > 20 ? 1 : 0, 1);
        Due.is("made by the library", times(code, "\\b(clone|copyOf|copyOfRange|toCharArray|valueOf)\\b"), 0);
    }
}
