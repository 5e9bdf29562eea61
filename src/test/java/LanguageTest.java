import java.io.IOException;
import java.nio.file.Files;
import java.nio.file.Path;
import java.util.regex.Matcher;
import java.util.regex.Pattern;

/** Some of ../shared/LANGUAGE.md, as far as it can be seen from the text of the class. */
public final class LanguageTest {
    private static final String[] NOT_ALLOWED = {
        "->", "::", "\\bcatch\\b", "\\bfinally\\b", "\\bassert\\b", "\\bsynchronized\\b", "\\bvar\\b", "\\w+Exact\\(",
        "\\bObject\\b", "\\bSystem\\.(?!arraycopy)", "\\btoString\\b", "\\bhashCode\\b", "static \\{", "\\bprotected\\b",
        "\\bInteger\\.[A-Z]", "\\bnull\\b", "\\bthrow new (?!NoSuchElementException\\(\\))", "[^\\x00-\\x7f]",
        "\" \\+|\\+ \"", "static (?!final )[\\w\\[\\]]+ \\w+( =.*)?;"};
    private static final String FACE = "feed rules count premium moment clock punch strike undo punched span quarter day"
        + " week counted pay dayPay total would dearest worth together ";
    private static final Check CHECK = new Check();

    public static void main(String[] args) throws IOException {
        String source = Files.readString(Path.of("src/main/java/PremiumHours.java"));
        String code = source.replaceAll("(?s)/\\*.*?\\*/", "").replaceAll("//.*", "");
        for (String pattern : NOT_ALLOWED) {
            CHECK.same("places of " + pattern, places(code, pattern), 0);
        }
        CHECK.same("imports", places(code, "\\bimport "), places(code, "\\bimport java.util.NoSuchElementException;"));
        CHECK.same("public members and the class", places(code, "\\bpublic "), FACE.split(" ").length + 3);
        CHECK.same("classes inside are private, static, final", places(code, "\\bclass "),
            places(code, "    private static final class ") + 1);
        CHECK.same("at most some twelve classes", places(code, "\\bclass ") <= 12 ? 1 : 0, 1);
        for (String name : FACE.split(" ")) {
            CHECK.same("methods named " + name, places(code, "\\n +(\\w+ )*\\w[\\w\\[\\]]* " + name + "\\([^)]*\\)[^;]*\\{"), 1);
        }
        methodsStayShort(source);
        CHECK.end();
    }

    private static int places(String code, String pattern) {
        Matcher matcher = Pattern.compile(pattern).matcher(code);
        int found = 0;
        while (matcher.find()) {
            found++;
        }
        return found;
    }

    private static void methodsStayShort(String source) {
        int from = 0;
        String[] lines = source.split("\n");
        for (int i = 0; i < lines.length; i++) {
            if (lines[i].matches("( {4}| {8})[\\w\\[\\], ]+\\(.*\\{") && !lines[i].contains(" class ")) {
                from = i;
            }
            if (lines[i].matches("( {4}| {8})\\}")) {
                CHECK.same("line " + (from + 1) + " begins a long method", i - from < 60 || from == 0 ? 1 : 0, 1);
                from = i;
            }
        }
    }
}
