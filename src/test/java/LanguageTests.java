import java.io.IOException;
import java.nio.file.Files;
import java.nio.file.Path;
import java.util.regex.Matcher;
import java.util.regex.Pattern;

/** The rules of LANGUAGE.md that can be seen in the text of the class. */
public final class LanguageTests {
    private static final int METHOD_LINES = 60;
    private static final int CLASSES = 12;
    private static int wrong = 0;

    private static void fail(String rule, String what) {
        wrong++;
        System.out.println("rule " + rule + ": " + what);
    }

    private static void none(String text, String rule, String pattern) {
        Matcher m = Pattern.compile(pattern).matcher(text);
        while (m.find()) {
            fail(rule, "'" + m.group().trim() + "' stands in it");
        }
    }

    private static int count(String text, String pattern) {
        Matcher m = Pattern.compile(pattern).matcher(text);
        int n = 0;
        while (m.find()) {
            n++;
        }
        return n;
    }

    public static void main(String[] args) throws IOException {
        String whole = Files.readString(Path.of("src/main/java/OneJoy.java"));
        String text = whole.replaceAll("/\\*(?s:.*?)\\*/", "").replaceAll("//[^\n]*", "");
        none(text, "header", "(?m)^package ");
        none(text, "2", "->|::");
        none(text, "3", "\\b(var|Object|Map|Set|Character|Boolean)\\b");
        none(text, "4", "import (?!java\\.util\\.(Arrays|NoSuchElementException);)[^\n]*");
        none(text, "4", "\\w+Exact\\b|\\bInteger\\.(?!bitCount|compare)\\w+|\\bMath\\.(?!max|min|abs|floor)\\w+");
        none(text, "5", "(?m)^ +(private )?static (?!final)[\\w\\[\\]]+ \\w+( =|;)");
        none(text, "6", "\\b(try|catch|finally|assert|synchronized|instanceof)\\b");
        none(text, "9", "\\bwhile\\b|for \\(;;\\)|for \\([^;]*;\\s*;");
        none(text, "13", "\\b(System|Thread|Random|Runtime)\\b");
        methods(text);
        if (count(text, "\\bclass \\w+") > CLASSES) {
            fail("11", "more than " + CLASSES + " classes");
        }
        none(text, "1", "private [\\w\\[\\] ]+ (feed|end|fault|text|house|window|law|wish|turn|shut|music|fog|prescribe|lie|go"
            + "|mists?|undo|log|ahead|when|round|never|feud|stand|lies|shutters|feast|odds|mean|pretend|rests|see|envied"
            + "|sure|sills|sees|most|widows|image|back|count)\\(");
        System.out.println(wrong == 0 ? "no rule is seen broken" : wrong + " places against the rules");
        if (wrong != 0) {
            System.exit(1);
        }
    }

    private static void methods(String text) {
        String[] lines = text.split("\n");
        int begun = -1;
        String end = "";
        for (int i = 0; i < lines.length; i++) {
            if (begun < 0 && lines[i].matches(" +[\\w\\[\\] ]+\\(.*\\).*\\{") && !lines[i].matches(" +(if|for|switch|else).*")) {
                begun = i;
                end = lines[i].replaceAll("\\S.*", "") + "}";
                if (count(lines[i].replaceAll("\\).*", ""), ",") > 6) {
                    fail("11", "more than seven parameters: " + lines[i].trim());
                }
            } else if (begun >= 0 && lines[i].equals(end)) {
                if (i - begun + 1 > METHOD_LINES) {
                    fail("11", "more than " + METHOD_LINES + " lines: " + lines[begun].trim());
                }
                begun = -1;
            }
        }
    }
}
