import java.io.IOException;
import java.nio.file.Files;
import java.nio.file.Path;
import java.util.regex.Matcher;
import java.util.regex.Pattern;

/** ../shared/LANGUAGE.md, rule by rule, as far as it can be seen from the text of the class. */
public final class LanguageTest {
    private static final String THROWN = "(IllegalStateException|IllegalArgumentException|IndexOutOfBoundsException|"
        + "ArithmeticException|UnsupportedOperationException|NoSuchElementException|RuntimeException)";
    private static final String LIBRARY = "java.util.(ArrayList|Arrays|Iterator|List|NoSuchElementException);";
    private static final String[] FACE = {
        "feed(int a, int b, int c, int d, int e)", "rules(int n)", "count(int what)",
        "premium(int premium, int what) throws NoSuchElementException", "moment(int day, int minute, boolean again)",
        "clock(int moment, int what)", "punch(int worker, int kind, int day, int minute, boolean again)",
        "strike(int worker, int day, int minute, boolean again)", "undo()", "punched(int worker, int k, int what)",
        "span(int worker, int k, int what)", "quarter(int worker, int quarter, int what) throws NoSuchElementException",
        "day(int worker, int day, int premium)", "week(int worker, int week, int premium)",
        "counted(int worker, int week, boolean asTheyCome)", "pay(int worker, int week, boolean asTheyCome)",
        "dayPay(int worker, int day)", "total()", "would(int worker, int kind, int day, int minute, boolean again)",
        "dearest(int worker, int kind, int day)", "worth(int premium)", "together(int worker, int other)"};
    private static final Check CHECK = new Check();
    private static String code;
    private static String signs;

    public static void main(String[] args) throws IOException {
        String source = Files.readString(Path.of("src/main/java/PremiumHours.java"));
        code = source.replaceAll("(?s)/\\*.*?\\*/", "").replaceAll("//.*", "");
        signs = code.replaceAll("\"[^\"]*\"", "\"\"");
        face();
        types();
        library();
        statics();
        exceptions();
        parameters();
        methodsStayShort(source);
        CHECK.end();
    }

    private static int places(String text, String pattern) {
        Matcher matcher = Pattern.compile(pattern).matcher(text);
        int found = 0;
        while (matcher.find()) {
            found++;
        }
        return found;
    }

    private static void none(int rule, String pattern) {
        CHECK.same("rule " + rule + ", places of " + pattern, places(signs, pattern), 0);
    }

    private static void face() {
        CHECK.same("rule 1, the class", places(signs, "public final class PremiumHours\\b"), 1);
        CHECK.same("rule 1, the constant", places(signs, "public static final int NONE = -1;"), 1);
        CHECK.same("rule 1, the constructor", places(signs, "public PremiumHours\\(\\)"), 1);
        for (String method : FACE) {
            String name = method.substring(0, method.indexOf('('));
            CHECK.same("rule 1, " + method, places(signs, "public int " + Pattern.quote(method) + " \\{"), 1);
            none(1, "private [\\w\\[\\] ]+ " + name + "\\(");
        }
        int own = places(signs, "public (int (compareTo|size)|boolean hasNext|Integer next|Iterator<Integer> iterator)\\(");
        CHECK.same("rule 1, all that is public", places(signs, "\\bpublic "), FACE.length + 3 + own);
        none(1, "\\bprotected\\b");
        none(1, "\\bpackage\\b");
        none(2, "->");
        none(2, "::");
    }

    private static void types() {
        none(3, "\\b(Object|Map|Set|HashMap|Double|Float|Long\\[|Character|Byte|Short|Boolean|var)\\b");
        none(3, "\\[\\]\\[\\]\\[\\]");
        none(6, "\\b(finally|assert|synchronized)\\b");
        none(6, "\\b(equals|hashCode|toString)\\(Object");
        none(10, "\"\" \\+|\\+ \"\"");
        CHECK.same("rule 4, signs of constants are 1 to 127", places(code, "[^\\x00-\\x7f]"), 0);
        int classes = places(signs, "\\b(class|record|enum|interface) \\w+");
        CHECK.same("rule 11, " + classes + " classes are some twelve", classes <= 14 ? 1 : 0, 1);
    }

    private static void library() {
        CHECK.same("rule 4, imports", places(signs, "\\bimport "), places(signs, "\\bimport " + LIBRARY));
        none(4, "\\w+Exact\\(");
        none(4, "\\bSystem\\.(?!arraycopy)");
        none(4, "\\bArrays\\.(?!copyOf\\(|copyOfRange\\(|fill\\()");
        none(13, "\\b(Random|Thread|Files|File|Runtime|LocalDate|nanoTime|currentTimeMillis)\\b");
    }

    private static void statics() {
        none(5, "static \\{");
        none(5, "static (?!final )[\\w\\[\\]<>]+ \\w+( =.*)?;");
        none(5, "(private|public) static (?!final )[\\w\\[\\]<>]+ \\w+ =");
    }

    private static void exceptions() {
        none(6, "\\bthrow (?!new " + THROWN + "\\((\"\")?\\);)");
        none(6, "\\bcatch \\((?!(final )?" + THROWN + " )");
        none(6, "\\bextends \\w*(Exception|Error|Throwable)\\b");
        none(6, "\\bcatch \\([\\w ]*(Exception|Error|Throwable) \\w+\\) \\{\\s*throw\\b");
    }

    private static void parameters() {
        none(11, "[\\w\\]>] \\w+\\((?:[\\w\\[\\]<>]+ \\w+, ){7,}[\\w\\[\\]<>]+ \\w+\\)[^;]*\\{");
    }

    private static void methodsStayShort(String source) {
        int from = 0;
        String[] lines = source.split("\n");
        for (int i = 0; i < lines.length; i++) {
            if (lines[i].matches("( {4}| {8})[\\w\\[\\], ]+\\(.*\\{") && !lines[i].contains(" class ")) {
                from = i;
            }
            if (lines[i].matches("( {4}| {8})\\}")) {
                CHECK.same("rule 11, line " + (from + 1) + " begins a long method", i - from < 65 || from == 0 ? 1 : 0, 1);
                from = i;
            }
        }
    }
}
