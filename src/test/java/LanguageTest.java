import java.io.IOException;
import java.nio.file.Files;
import java.nio.file.Path;
import java.util.regex.Matcher;
import java.util.regex.Pattern;

/** Those rules of LANGUAGE.md that the text of the program tells by itself. */
public final class LanguageTest {
    public static void main(String[] args) {
        Check.all(LanguageTest.class);
    }

    static void rulesThatTheTextTells(Check check) throws IOException {
        String source = Files.readString(Path.of("src/main/java/StarterBay.java"));
        check.yes("the source has the signs 1 to 127 alone", source.chars().allMatch(sign -> sign > 0 && sign < 128));
        String bare = withoutCommentsAndTexts(source);
        String[] forbidden = {"\\b(throw|throws|try|catch|finally|synchronized|assert|import|package|volatile|native)\\b",
            "->", "::", "\\byield\\b", "\\bExact\\b", "Exact\\(", "\\b(equals|hashCode|toString)\\(", "\\bSystem\\.(?!arraycopy\\()",
            "\\b(Thread|Random|Class|Object|Runtime|Scanner|Map|Set|HashMap|Optional|Stream)\\b", "\\bwhile\\s*\\(true\\)",
            "for\\s*\\(;;", "\"\\s*\\+", "\\+\\s*\""};
        for (String one : forbidden) {
            Matcher found = Pattern.compile(one).matcher(bare);
            check.yes("the source is without " + one, !found.find());
        }
        checkStaticFields(check, bare);
        checkLengths(check, bare);
    }

    private static String withoutCommentsAndTexts(String source) {
        return source.replaceAll("(?s)/\\*.*?\\*/", "").replaceAll("//[^\n]*", "")
                .replaceAll("\"(\\\\.|[^\"\\\\\n])*\"", "\"\"").replaceAll("'(\\\\.|[^'\\\\])'", "' '");
    }

    private static void checkStaticFields(Check check, String bare) {
        Matcher field = Pattern.compile("\\bstatic\\b(?!\\s+final\\s+(class|int|long|boolean|char|String)\\b)[^({;]*[;=]").matcher(bare);
        check.yes("all static fields are final constants", !field.find());
    }

    // A method begins at a line that ends with ") {" one level inside its class.
    private static void checkLengths(Check check, String bare) {
        String[] lines = bare.split("\n");
        int begin = -1;
        String indent = "";
        for (int line = 0; line < lines.length; line++) {
            Matcher head = Pattern.compile("^( {4}| {8})[A-Za-z].*\\) \\{$").matcher(lines[line]);
            if (begin < 0 && head.find() && !lines[line].trim().matches("(if|for|while|switch|\\}).*")) {
                begin = line;
                indent = head.group(1);
            } else if (begin >= 0 && lines[line].equals(indent + "}")) {
                check.yes("the method of line " + (begin + 1) + " has at most 60 lines", line - begin < 60);
                begin = -1;
            }
        }
        Matcher classes = Pattern.compile("\\b(class|record|enum|interface)\\s+[A-Z]").matcher(bare);
        int found = 0;
        while (classes.find()) {
            found++;
        }
        check.yes("there are at most 12 classes", found <= 12);
    }
}
