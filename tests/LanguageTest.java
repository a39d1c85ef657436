import java.nio.file.Files;
import java.nio.file.Paths;
import java.util.regex.Matcher;
import java.util.regex.Pattern;

/** The rules of ../shared/LANGUAGE.md that a look at the source can tell. */
public final class LanguageTest {
    private static final String SOURCE = "src/main/java/OldBronze.java";
    private static final String[] FORBIDDEN = {
        "\\b(throw|throws|try|catch|finally|synchronized|assert|package|protected|native"
                + "|volatile|transient|var|Thread|Random|Scanner|Object|Exact)\\b",
        "->", "::", "\"", "\\bequals\\b", "\\bhashCode\\b", "\\btoString\\b",
        "\\bSystem\\.(?!arraycopy\\b)", "\\bMath\\.(?!(min|max|abs)\\b)",
        "\\bArrays\\.(?!fill\\b)", "\\bInteger\\.(?!bitCount\\b)", "\\bLong\\b", "\\bString\\b",
    };

    public static void main(String[] args) throws Exception {
        Due due = new Due();
        String source = new String(Files.readAllBytes(Paths.get(SOURCE)), "UTF-8");
        String code = source.replaceAll("(?s)/\\*.*?\\*/", "").replaceAll("//[^\n]*", "")
                .replaceAll("'.'", "0");
        for (String word : FORBIDDEN) {
            Matcher found = Pattern.compile(word).matcher(code);
            due.is(word + (found.find() ? " stands as " + found.group() : ""),
                    found.reset().find() ? 1 : 0, 0);
        }
        imports(due, code);
        classes(due, code);
        methods(due, code);
        fields(due, code);
        due.end();
    }

    private static int all(String code, String form) {
        int all = 0;
        Matcher found = Pattern.compile(form).matcher(code);
        while (found.find()) {
            all++;
        }
        return all;
    }

    private static void imports(Due due, String code) {
        due.is("imports", all(code, "(?m)^import "), 1);
        due.is("import of Arrays", all(code, "(?m)^import java\\.util\\.Arrays;"), 1);
    }

    private static void classes(Due due, String code) {
        due.is("all classes inside are private static final", all(code, "\\bclass \\w+ \\{"),
                1 + all(code, "private static final class \\w+ \\{"));
        due.is("at most twelve classes", all(code, "\\bclass \\w+") <= 12 ? 1 : 0, 1);
    }

    private static void methods(Due due, String code) {
        Matcher body = Pattern.compile("(?ms)^( +)[^ \n}][^\n;=]*\\(([^)\n]*)\\) \\{\n(.*?)^\\1\\}$")
                .matcher(code);
        int methods = 0;
        for (int at = 0; body.find(at); at = body.end(2)) {
            methods++;
            String head = body.group().substring(0, body.group().indexOf('\n')).trim();
            due.is("rows of " + head, body.group().split("\n").length <= 60 ? 1 : 0, 1);
            due.is("parameters of " + head, body.group(2).split(",").length <= 7 ? 1 : 0, 1);
        }
        due.is("methods were found", methods > 100 ? 1 : 0, 1);
    }

    private static void fields(Due due, String code) {
        due.is("all static fields are final",
                all(code, "\\bstatic (?!final)[\\w\\[\\]]+ \\w+ ?[=;]"), 0);
        due.is("no static block", all(code, "\\bstatic \\{"), 0);
        Matcher made = Pattern.compile("(?m)^.*\\bnew\\b.*$").matcher(code);
        while (made.find()) {
            boolean isField = made.group().matches(" +(private )?final \\S+ \\w+ = new .*;");
            boolean isInConstructor = made.group().matches(" +(this\\.cells|sheets\\[i\\]) = .*");
            due.is("made once: " + made.group(), isField || isInConstructor ? 1 : 0, 1);
        }
    }
}
