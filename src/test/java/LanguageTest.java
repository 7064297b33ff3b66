import java.io.IOException;
import java.nio.file.Files;
import java.nio.file.Path;
import java.util.List;
import java.util.regex.Matcher;
import java.util.regex.Pattern;

/** What of LANGUAGE.md can be seen in the words of the program; run it from the project's folder. */
public final class LanguageTest {
    private static final Path PROGRAM = Path.of("src/main/java/PactClocks.java");

    /** Words and signs that the rules leave out, or that this program has no need of. */
    private static final List<String> LEFT_OUT = List.of(
            "\\bpackage\\b", "\\bimport\\b", "->", "::", "\\bfinally\\b", "\\btry\\b", "\\bcatch\\b",
            "\\bsynchronized\\b", "\\bassert\\b", "\\bprotected\\b", "\\bsealed\\b", "\\bvar\\b",
            "\\w+Exact\\b", "\\bSystem\\.(?!arraycopy)", "\\bThread\\b", "\\bRandom\\b", "\\bObject\\b",
            "\\bgetMessage\\b", "\\bhashCode\\b", "\\bString\\.", "\\bstatic\\s*\\{", "@\\w+",
            "\"\\s*\\+", "\\+\\s*\"", "while\\s*\\(\\s*true\\s*\\)", "for\\s*\\(\\s*;");

    private LanguageTest() {
    }

    public static void main(String[] args) throws IOException {
        Due due = new Due();
        String source = Files.readString(PROGRAM);
        String code = source.replaceAll("(?s)/\\*.*?\\*/", "").replaceAll("//[^\n]*", "");
        due.holds("all characters are plain", source.chars().allMatch(c -> c == '\n' || c >= 32 && c < 127));
        for (String left : LEFT_OUT) {
            Matcher found = Pattern.compile(left).matcher(code);
            boolean there = found.find();
            due.holds("there is " + (there ? found.group() : ""), !there);
        }
        for (Matcher field = Pattern.compile("\\bstatic (\\w+) ([^;{]*[;{])").matcher(code); field.find();) {
            String rest = field.group(2);
            due.holds(field.group() + " is a final field, a method or a class",
                    field.group(1).equals("final") || rest.contains("("));
        }
        for (Matcher thrown = Pattern.compile("\\bthrow ([^;]*);").matcher(code); thrown.find();) {
            due.holds(thrown.group() + " throws what the document names", thrown.group(1).matches(
                    "new (IllegalState|IllegalArgument|IndexOutOfBounds)Exception\\(\"[^\"]*\"\\)"));
        }
        methods(due, code);
        due.end(0, -1);
    }

    /** No method has more than seven parameters or more than sixty lines. */
    private static void methods(Due due, String code) {
        Pattern head = Pattern.compile("(?m)^( +)(?:[a-z]+ )*\\w+ \\w+\\(([^()]*)\\)[^;{]*\\{\n");
        int seen = 0;
        for (Matcher method = head.matcher(code); method.find();) {
            if (method.group().trim().matches("(?s)(else|return|new)\\b.*")) {
                continue;
            }
            seen++;
            String name = method.group().trim();
            String end = "\n" + method.group(1) + "}";
            String body = code.substring(method.end() - 1, code.indexOf(end, method.end() - 1));
            due.holds(name + " is short", body.split("\n").length <= 60);
            due.holds(name + " takes at most seven", method.group(2).split(",").length <= 7);
        }
        due.holds("the methods were seen: " + seen, seen >= 29);
    }
}
