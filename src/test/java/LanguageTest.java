import java.io.IOException;
import java.nio.file.Files;
import java.nio.file.Path;
import java.util.List;
import java.util.regex.Matcher;
import java.util.regex.Pattern;

/** What of ../shared/LANGUAGE.md can be seen in the text of the program. */
public final class LanguageTest {
    private static final String[] NEVER = {
        "->", "::", "\\btry\\b", "\\bcatch\\b", "\\bfinally\\b", "\\bthrow\\b", "\\bthrows\\b", "\\bsynchronized\\b",
        "\\bassert\\b", "\\bwhile \\(true", "for \\(;;", "\\bpackage\\b", "\\bnull\\b", "\\binstanceof\\b",
        "Exact\\(", "\\bSystem\\.(?!arraycopy)", "\\bArrays\\.(?!fill\\(|copyOf)", "\\bRandom\\b", "\\bThread\\b",
        "\\bprotected\\b", "\\bString\\b"};

    private LanguageTest() {
    }

    public static void main(String[] args) throws IOException {
        Path file = Path.of("src", "main", "java", "FairWheel.java");
        List<String> lines = Files.readAllLines(file);
        String code = withoutComments(String.join("\n", lines));
        for (String word : NEVER) {
            Matcher m = Pattern.compile(word).matcher(code);
            Check.dueThat("no " + word, !m.find());
        }
        for (int i = 0; i < lines.size(); i++) {
            if (lines.get(i).startsWith("import ")) {
                Check.dueThat(lines.get(i), lines.get(i).equals("import java.util.Arrays;"));
            }
            Check.dueThat("line " + (i + 1) + " is not too long", lines.get(i).length() <= 120);
            Check.dueThat("line " + (i + 1) + " is ASCII", lines.get(i).chars().allMatch(c -> c < 127));
        }
        shortMethods(lines);
        objects(code);
        Check.end();
    }

    private static String withoutComments(String code) {
        return code.replaceAll("(?s)/\\*.*?\\*/", "").replaceAll("//[^\n]*", "");
    }

    /** Rule 11. A method begins with a line that ends with ") {" and ends with a brace as far in. */
    private static void shortMethods(List<String> lines) {
        for (int i = 0; i < lines.size(); i++) {
            Matcher m = Pattern.compile("^( {4}| {8})[a-zA-Z].*\\(.*\\) \\{$").matcher(lines.get(i));
            if (m.matches() && !lines.get(i).matches(" *(if|for|while|switch|\\}) .*")) {
                int end = i;
                while (!lines.get(end).equals(m.group(1) + "}")) {
                    end++;
                }
                Check.dueThat("the method of line " + (i + 1) + " is short", end - i <= 60);
            }
        }
    }

    /** Rule 12, more strictly: all objects are made where fields are, so no call makes any. */
    private static void objects(String code) {
        for (String line : code.split("\n")) {
            if (line.contains("new ")) {
                Check.dueThat(line.trim() + " makes a field", line.trim().startsWith("private final "));
            }
        }
    }
}
