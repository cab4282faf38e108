import java.io.IOException;
import java.nio.file.Files;
import java.nio.file.Path;
import java.util.List;
import java.util.regex.Matcher;
import java.util.regex.Pattern;

/** What of ../shared/LANGUAGE.md a reader of the text can see. */
public final class RulesTest {
    private static final Due DUE = new Due();

    public static void main(String[] args) throws IOException {
        Path file = Path.of("src/main/java/DebtChoir.java");
        List<String> lines = Files.readAllLines(file);
        StringBuilder code = new StringBuilder();
        for (String line : lines) {
            code.append(line).append('\n');
        }
        String bare = code.toString().replaceAll("(?s)/\\*.*?\\*/", "").replaceAll("//[^\n]*", "");
        String[] banned = {"throw", "try", "catch", "synchronized", "assert", "import", "package", "->", "::",
            "hashCode", "equals", "toString", "Random", "currentTimeMillis", "nanoTime", "Thread", "Exact",
            "volatile", "protected", "instanceof"};
        for (String word : banned) {
            String pattern = Character.isLetter(word.charAt(0)) ? "\\w*" + word + "\\w*" : Pattern.quote(word);
            if (word.equals("try")) {
                pattern = "\\btry\\b";
            }
            DUE.is("rule 3, 4, 6 or 13: " + word, count(bare, pattern), 0);
        }
        DUE.is("rule 2: classes inside that are not static", count(bare, "(?m)^ {4}(?!private static final).*\\bclass "), 0);
        DUE.is("rule 11: some twelve classes", count(bare, "\\bclass ") <= 12 ? 1 : 0, 1);
        DUE.is("rule 12: objects made in a method", count(bare, "(?m)^ {4,}+(?!private final |final )(?!\\w+ = ).*\\bnew "), 0);
        DUE.is("rule 12: rows that the constructor makes", count(bare, "(?m)^ {4,}+\\w+ = new "), 9);
        DUE.is("rule 1: public members", count(bare, "(?m)^ {4}public "), 2 + 1 + 27 - 1);
        longMethods(lines);
        DUE.end();
    }

    private static int count(String text, String pattern) {
        Matcher matcher = Pattern.compile(pattern).matcher(text);
        int found = 0;
        while (matcher.find()) {
            found++;
        }
        return found;
    }

    /** Methods of the class and of those inside end with a brace at their own depth. */
    private static void longMethods(List<String> lines) {
        for (String indent : new String[] {"    ", "        "}) {
            int start = -1;
            for (int i = 0; i < lines.size(); i++) {
                String line = lines.get(i);
                if (line.matches(indent + "\\S.*\\) \\{")) {
                    start = i;
                }
                if (line.equals(indent + "}") && start >= 0) {
                    DUE.is("rule 11: a method of line " + (start + 1), i - start <= 60 ? 1 : 0, 1);
                    start = -1;
                }
            }
        }
    }
}
