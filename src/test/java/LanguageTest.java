import java.nio.file.Files;
import java.nio.file.Path;
import java.util.regex.Matcher;
import java.util.regex.Pattern;

/** What of ../shared/LANGUAGE.md can be seen from the text of the program. */
public final class LanguageTest {
    private static final String[] RULED_OUT = {
        "\\bthrow\\b", "\\bthrows\\b", "\\btry\\b", "\\bcatch\\b", "\\bsynchronized\\b", "\\bassert\\b", "->", "::",
        "\\bpackage\\b", "\\bprotected\\b", "\\bequals\\b", "\\bhashCode\\b", "\\btoString\\b", "Exact\\b",
        "\\bdouble\\b", "\\bfloat\\b", "\\bvar\\b", "\\bnull\\b", "\\bSystem\\.(?!arraycopy)", "\\bMath\\.(?!max|min)",
        "\\bArrays\\.(?!fill)", "\\bInteger\\.(?!bitCount)", "\\bLong\\.", "\\bimport (?!java\\.util\\.Arrays;)",
        "while \\(true\\)", "for \\(;;\\)", "\\t"};

    public static void main(String[] args) throws Exception {
        String text = Files.readString(Path.of("src/main/java/SpeakTubes.java"));
        String code = text.replaceAll("(?s)/\\*.*?\\*/", "").replaceAll("//[^\n]*", "").replaceAll("'.'", "' '");
        for (String rule : RULED_OUT) {
            Matcher found = Pattern.compile(rule).matcher(code);
            Check.isTrue("ruled out: " + rule, !found.find());
        }
        Check.isTrue("plain signs", text.chars().allMatch(sign -> sign == '\n' || sign >= 32 && sign < 127));
        for (String line : code.split("\n")) {
            boolean startsRow = line.matches(".*\\bnew \\w+\\[.*");
            Check.isTrue("rows are made with their objects: " + line, !startsRow || line.contains("final"));
            Matcher head = Pattern.compile("^ {4,8}(?:\\w+ )*\\w+\\(([^()]*)\\) \\{$").matcher(line);
            if (head.find()) {
                Check.isTrue("seven parameters at most: " + line, head.group(1).split(",").length <= 7);
            }
        }
        methodLengths(code.split("\n"));
        Check.end("LanguageTest");
    }

    /** A method's head stands behind 4 signs, or 8 in a class inside; so does the sign at its end. */
    private static void methodLengths(String[] lines) {
        int head = -1;
        String margin = "";
        for (int i = 0; i < lines.length; i++) {
            Matcher begins = Pattern.compile("^( {4}| {8})(?:\\w+(?:\\[\\])* )*\\w+\\([^()]*\\) \\{$").matcher(lines[i]);
            if (head < 0 && begins.find() && !lines[i].matches(" *(if|for|while|switch|else).*")) {
                head = i;
                margin = begins.group(1);
            } else if (head >= 0 && lines[i].equals(margin + "}")) {
                Check.isTrue("sixty lines at most: " + lines[head], i - head < 60);
                head = -1;
            }
        }
    }
}
