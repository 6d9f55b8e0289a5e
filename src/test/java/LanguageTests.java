import java.io.IOException;
import java.nio.file.Files;
import java.nio.file.Path;
import java.util.List;
import java.util.regex.Matcher;
import java.util.regex.Pattern;

/** What can be seen in the class's text of the rules of LANGUAGE.md; the path is the argument. */
public final class LanguageTests {
    private static final Check CHECK = new Check("LanguageTests");
    private static final String[] RULED_OUT = {
        "->", "::", "\\bcatch\\b", "\\btry\\b", "\\bfinally\\b", "\\bsynchronized\\b", "\\bassert\\b",
        "\\bpackage\\b", "\\bstatic\\s*\\{", "Exact\\b", "\\bdouble\\b", "\\bfloat\\b", "\\bSystem\\.(?!arraycopy)",
        "\\bMath\\.(?!min\\(|max\\()", "\\bLong\\.(?!bitCount\\()", "\\bArrays\\.(?!fill\\()",
        "\\bimport (?!java\\.util\\.Arrays;)", "\\bstatic (?!final|int|long|void|boolean)",
        "\\bthrow (?!new (IndexOutOfBounds|IllegalState|IllegalArgument)Exception\\(\"[^\"]*\"\\);)",
        "(?<!(final|private)) \\w+(\\[\\])+ \\w+ = new ", "while \\(true\\)", "for \\(;;",
    };
    private static final String FACE =
            "polygon|corner|op|size|shapes|at|in|area2|touching|nets|netOf|strips|edge|trapezoid|clear";

    public static void main(String[] args) throws IOException {
        Path path = Path.of(args[0]);
        List<String> lines = Files.readAllLines(path);
        String code = withoutComments(String.join("\n", lines));
        for (String pattern : RULED_OUT) {
            Matcher matcher = Pattern.compile(pattern).matcher(code);
            CHECK.no(pattern + " is ruled out", matcher.find());
        }
        Matcher hidden = Pattern.compile("(?m)^ +(?!public)[a-z][\\w \\[\\]]* (" + FACE + ")\\([^)]*\\) *\\{").matcher(code);
        CHECK.no("a method that bears the name of a public one", hidden.find());
        CHECK.yes("at most twelve classes", count("\\bclass \\w+", code) <= 12);
        methodsAreShort(lines);
        CHECK.end();
    }

    private static String withoutComments(String text) {
        return text.replaceAll("(?s)/\\*.*?\\*/", "").replaceAll("//[^\n]*", "");
    }

    private static int count(String pattern, String text) {
        return (int) Pattern.compile(pattern).matcher(text).results().count();
    }

    /** By the indentation that the file has throughout. */
    private static void methodsAreShort(List<String> lines) {
        Pattern begin = Pattern.compile("^( {4}| {8})[a-zA-Z].*\\) ?(throws .*)?\\{$|^ {12}throws .*\\{$");
        int from = -1;
        for (int i = 0; i < lines.size(); i++) {
            if (begin.matcher(lines.get(i)).find() && !lines.get(i).contains(" if (")) {
                from = i;
            }
            if (from >= 0 && lines.get(i).matches(" {4}\\}| {8}\\}")) {
                CHECK.yes("method at line " + (from + 1) + " is short", i - from <= 60);
            }
        }
    }
}
