import java.io.IOException;
import java.nio.file.Files;
import java.nio.file.Path;
import java.util.List;
import java.util.regex.Matcher;
import java.util.regex.Pattern;

/** Rules of LANGUAGE.md that can be seen in the text of the class; run from the project's folder. */
public final class LanguageTest {
    private static final String[] LEFT_OUT = {
        "->", "::", "\\btry\\b", "\\bcatch\\b", "\\bfinally\\b", "\\bsynchronized\\b", "\\bassert\\b",
        "\\binstanceof\\b", "\\bpackage\\b", "\\bstatic\\s*\\{", "Exact\\(", "\\bdouble\\b", "\\bfloat\\b",
        "\\bnew Object\\b", "\\btoString\\b", "\\bhashCode\\b", "\\bequals\\b", "System\\.(?!arraycopy)",
        "while \\(true\\)", "for \\(;;\\)", "[^\\x00-\\x7f]"};

    public static void main(String[] args) throws IOException {
        Check check = new Check();
        List<String> lines = Files.readAllLines(Path.of("src/main/java/StreetTube.java"));
        String text = String.join("\n", lines).replaceAll("(?s)/\\*.*?\\*/", "").replaceAll("//[^\n]*", "");
        for (String form : LEFT_OUT) {
            check.due("no " + form, Pattern.compile(form).matcher(text).find(), false);
        }
        check.due("one import", count(text, "(?m)^import "), 1);
        check.due("one throw", count(text, "\\bthrow new "), 1);
        check.due("static fields are final", count(text, "static (?!final)[\\w\\[\\]]+ \\w+ ?[=;]"), 0);
        // rows are made with their objects, not by calls
        check.due("rows made inside methods", count(text, "(?m)^ {8,}(?!private|this).*= new (?!Told|int\\[most|boolean\\[most)"), 0);
        check.due("texts joined by +", count(text, "\"\\s*\\+|\\+\\s*\""), 0);
        check.due("calls of a library that is left out",
                count(text, "\\b[A-Z]\\w*(?<!Six|Reach|Beads|Duel|Blink|Shaker|Reader)\\.(?!class)\\w+\\("),
                count(text, "\\b(Math\\.(min|max|abs)|Integer\\.bitCount|System\\.arraycopy)\\("));
        check.due("length and charAt alone of texts", count(text, "\\bword\\.(?!length\\(|charAt\\()"), 0);
        methodsAreShort(check, lines);
        check.end();
    }

    private static int count(String text, String form) {
        Matcher found = Pattern.compile(form).matcher(text);
        int count = 0;
        while (found.find()) {
            count++;
        }
        return count;
    }

    private static void methodsAreShort(Check check, List<String> lines) {
        int methods = 0;
        for (int i = 0; i < lines.size(); i++) {
            String line = lines.get(i);
            if (line.matches(" {4,8}[\\w\\[\\] ]+\\([^()]*\\)[\\w ]*\\{") && !line.matches(" *(for|if|while|switch).*")) {
                String close = line.substring(0, line.length() - line.stripLeading().length()) + "}";
                int end = i + 1;
                while (end < lines.size() && !lines.get(end).equals(close)) {
                    end++;
                }
                check.due("as short as can be: " + line.strip(), end - i <= 60, true);
                methods++;
            }
        }
        check.due("methods were found", methods > 100, true);
    }
}
