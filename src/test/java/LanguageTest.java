import java.io.IOException;
import java.nio.file.Files;
import java.nio.file.Path;
import java.util.regex.Matcher;
import java.util.regex.Pattern;

/** LANGUAGE.md, as far as the program's text shows it: words that it leaves out, the length of methods. */
public final class LanguageTest {
    private static final String[] LEFT_OUT = {"throw", "throws", "try", "catch", "synchronized", "assert", "native",
        "volatile", "transient", "protected", "package", "var", "Object", "equals", "hashCode", "toString", "\\w+Exact",
        "double", "float", "Random", "Thread", "currentTimeMillis", "nanoTime", "Exception", "->", "::", "\\?\\s*>"};
    private static final int LONGEST_METHOD = 60;

    public static void main(String[] args) throws IOException {
        String source = Files.readString(Path.of("src/main/java/PrinterLights.java"));
        String code = source.replaceAll("(?s)/\\*.*?\\*/", "").replaceAll("//[^\n]*", "");
        leftOut(code);
        imports(code);
        objectsMade(code);
        methods(source);
        Check.end();
    }

    private static int countOf(String pattern, String code) {
        Matcher m = Pattern.compile(pattern).matcher(code);
        int n = 0;
        while (m.find()) {
            n++;
        }
        return n;
    }

    private static void leftOut(String code) {
        for (String word : LEFT_OUT) {
            boolean isWord = Character.isLetter(word.charAt(0)) || word.startsWith("\\w");
            Check.due("rules 2, 4, 6, 13: " + word, countOf(isWord ? "\\b" + word + "\\b" : word, code), 0);
        }
    }

    private static void imports(String code) {
        Check.due("rule 4: Arrays alone", countOf("\\bimport\\b", code), countOf("import java\\.util\\.Arrays;", code));
        Check.due("rule 4: of Arrays", countOf("\\bArrays\\.", code), countOf("\\bArrays\\.(fill|copyOf|copyOfRange)\\(", code));
        Check.due("rule 4: of System", countOf("\\bSystem\\.", code), countOf("\\bSystem\\.arraycopy\\(", code));
    }

    /** All rows are made with the object: no line within a method makes one, so calls make none. */
    private static void objectsMade(String code) {
        for (String line : code.split("\n")) {
            if (line.contains("new ") || line.contains(".clone()")) {
                Check.due("rule 12: " + line.trim(), line.matches("\\s+(private )?final \\S+ \\w+ = .*;") ? 1 : 0, 1);
            }
        }
    }

    private static void methods(String source) {
        Pattern method = Pattern.compile("(?ms)^( +)[\\w\\[\\] ]+\\([^()]*\\) \\{$.*?^\\1\\}$");
        Matcher m = method.matcher(source);
        while (m.find()) {
            int lines = countOf("\n", m.group()) + 1;
            if (lines > LONGEST_METHOD) {
                Check.due("rule 11: lines of " + m.group().split("\n")[0].trim(), lines, LONGEST_METHOD);
            }
        }
    }
}
