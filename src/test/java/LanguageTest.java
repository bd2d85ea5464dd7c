import java.nio.file.Files;
import java.nio.file.Path;
import java.util.regex.Matcher;
import java.util.regex.Pattern;

/** The rules of LANGUAGE.md that can be seen by looking at the text of the program alone. */
public final class LanguageTest {
    private static final Path FILE = Path.of("src/main/java/HedgeChains.java");
    private static final String[] FORBIDDEN = {
        "throw", "throws", "try", "catch", "finally", "synchronized", "assert", "package", "volatile", "native",
        "hashCode", "\\w*Exception", "System\\.(?!arraycopy)\\w+", "Thread", "Random", "::", "Object", "protected", "\\w*Exact",
        "import (?!java\\.util\\.(ArrayList|List|Iterator|Arrays);)", "(?m)^(?! *(case|default)\\b).*->"};

    public static void main(String[] args) throws Exception {
        Check check = new Check("LanguageTest");
        String text = Files.readString(FILE);
        String code = text.replaceAll("(?s)/\\*.*?\\*/", "").replaceAll("//[^\n]*", "");
        for (String word : FORBIDDEN) {
            String pattern = Character.isLetter(word.charAt(0)) ? "\\b" + word + "\\b" : word;
            check.due("times that " + word + " stands in it", times(pattern, code), 0);
        }
        check.due("characters above 127", times("[^\\x00-\\x7f]", text), 0);
        check.due("classes are at most twelve", times("\\b(class|record|enum|interface)\\s+[A-Z]", code) <= 12 ? 1 : 0, 1);
        check.due("classes inside that are not static",
                times("\\bclass\\s+[A-Z]", code) - times("(?m)^ +(private )?(abstract )?static (abstract |final )?class\\s+[A-Z]", code), 1);
        check.due("longest method is at most 60 lines", longestMethod(code) <= 60 ? 1 : 0, 1);
        privateNames(check, code);
        check.end();
    }

    private static int times(String pattern, String code) {
        Matcher matcher = Pattern.compile(pattern).matcher(code);
        int times = 0;
        while (matcher.find()) {
            times++;
        }
        return times;
    }

    private static int longestMethod(String code) {
        Matcher matcher = Pattern.compile("(?ms)^( +)(?:public|private)[^;={]*\\([^;={]*\\{$.*?^\\1\\}$").matcher(code);
        int longest = 0;
        int methods = 0;
        while (matcher.find()) {
            methods++;
            longest = Math.max(longest, matcher.group().split("\n").length);
        }
        return methods < 22 ? Integer.MAX_VALUE : longest;
    }

    private static void privateNames(Check check, String code) {
        Matcher open = Pattern.compile("\\bpublic int (\\w+)\\(").matcher(code);
        while (open.find()) {
            String hidden = "\\bprivate (static )?\\w+(\\[\\])* " + open.group(1) + "\\(";
            check.due("private methods with the name " + open.group(1), times(hidden, code), 0);
        }
    }
}
