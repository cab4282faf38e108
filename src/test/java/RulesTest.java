import java.io.IOException;
import java.lang.reflect.Field;
import java.lang.reflect.Method;
import java.lang.reflect.Modifier;
import java.nio.file.Files;
import java.nio.file.Path;
import java.util.List;
import java.util.regex.Matcher;
import java.util.regex.Pattern;

/** What of ../shared/LANGUAGE.md a reader of the text can see. */
public final class RulesTest {
    private static final Due DUE = new Due();

    public static void main(String[] args) throws IOException {
        Path file = Path.of("src/main/java/DebtChoir.java");
        List<String> lines = Files.readAllLines(file);
        StringBuilder code = new StringBuilder();
        for (String line : lines) {
            code.append(line).append('\n');
        }
        String bare = code.toString().replaceAll("(?s)/\\*.*?\\*/", "").replaceAll("//[^\n]*", "");
        String[] banned = {"throw", "try", "catch", "synchronized", "assert", "import", "package", "->", "::",
            "hashCode", "equals", "toString", "Random", "currentTimeMillis", "nanoTime", "Thread", "Exact",
            "volatile", "protected", "instanceof"};
        for (String word : banned) {
            String pattern = Character.isLetter(word.charAt(0)) ? "\\w*" + word + "\\w*" : Pattern.quote(word);
            if (word.equals("try")) {
                pattern = "\\btry\\b";
            }
            DUE.is("rule 3, 4, 6 or 13: " + word, count(bare, pattern), 0);
        }
        DUE.is("rule 2: classes inside that are not static", count(bare, "(?m)^ {4}(?!private static final).*\\bclass "), 0);
        DUE.is("rule 11: some twelve classes", count(bare, "\\bclass ") <= 12 ? 1 : 0, 1);
        DUE.is("rule 12: objects made in a method", count(bare, "(?m)^ {4,}+(?!private final |final )(?!\\w+ = ).*\\bnew "), 0);
        DUE.is("rule 12: rows that the constructor makes", count(bare, "(?m)^ {4,}+\\w+ = new "), 9);
        DUE.is("rule 1: public members", count(bare, "(?m)^ {4}public "), 2 + 1 + 27 - 1);
        longMethods(lines);
        face();
        for (Class<?> inside : DebtChoir.class.getDeclaredClasses()) {
            inside(inside);
        }
        DUE.end();
    }

    private static final String[] FACE = {"singer(III)", "leave(I)", "piece(IIII)", "say(I)", "wipe()", "fault()",
        "judge(I)", "behind(II)", "owed(I)", "freed(I)", "done()", "may()", "nights(II)", "programme(II)",
        "ruin(II)", "seats(III)", "rings(IIIII)", "seen(II)", "forget()", "holds(I)", "ask(I)", "fugue(IIIIIII)long",
        "year(III)", "image(I)", "restore(I)", "told(I)"};
    private static final List<String> CONSTANTS = List.of("UNKNOWN", "OUTSIDE", "STATE", "FULL", "NO", "NONE", "GONE");

    /** Rule 1: the constants, the constructor and the methods of the document are public, all else is private. */
    private static void face() {
        List<String> face = List.of(FACE);
        int found = 0;
        for (Method method : DebtChoir.class.getDeclaredMethods()) {
            String type = method.getReturnType() == int.class ? "" : method.getReturnType().getName();
            String sign = method.getName() + "(" + "I".repeat(method.getParameterCount()) + ")" + type;
            int modifiers = method.getModifiers();
            boolean isFace = Modifier.isPublic(modifiers);
            DUE.is("rule 1: " + sign, isFace == face.contains(sign) && isFace != Modifier.isPrivate(modifiers) ? 1 : 0, 1);
            DUE.is("rule 1: static " + sign, isFace && Modifier.isStatic(modifiers) ? 1 : 0, 0);
            DUE.is("rule 11: parameters of " + sign, method.getParameterCount() <= 7 ? 1 : 0, 1);
            for (Class<?> parameter : method.getParameterTypes()) {
                DUE.is("rule 1: a parameter of " + sign, !isFace || parameter == int.class ? 1 : 0, 1);
            }
            found += isFace ? 1 : 0;
        }
        DUE.is("rule 1: methods", found, face.size());
        DUE.is("rule 1: public and final", DebtChoir.class.getModifiers(), Modifier.PUBLIC | Modifier.FINAL);
        DUE.is("rule 1: constructors", DebtChoir.class.getDeclaredConstructors().length, 1);
        DUE.is("rule 1: public constructors", DebtChoir.class.getConstructors().length, 1);
        DUE.is("rule 1: constants", DebtChoir.class.getFields().length, CONSTANTS.size());
    }

    /** Rules 1, 2, 5 and 11 of a class inside. */
    private static void inside(Class<?> inside) {
        int modifiers = inside.getModifiers();
        String name = inside.getSimpleName();
        boolean hidden = !Modifier.isPublic(modifiers) && !Modifier.isProtected(modifiers);
        DUE.is("rule 2: " + name, hidden && Modifier.isStatic(modifiers) ? 1 : 0, 1);
        int fields = 0;
        for (Field field : inside.getDeclaredFields()) {
            boolean constant = Modifier.isStatic(field.getModifiers());
            fields += constant ? 0 : 1;
            DUE.is("rule 5: " + name + "." + field.getName(),
                    !constant || Modifier.isFinal(field.getModifiers()) ? 1 : 0, 1);
        }
        DUE.is("rule 11: some twenty fields in " + name, fields <= 20 ? 1 : 0, 1);
        for (Method method : inside.getDeclaredMethods()) {
            for (String call : FACE) {
                boolean same = Modifier.isPrivate(method.getModifiers()) && call.startsWith(method.getName() + "(");
                DUE.is("rule 1: " + name + "." + method.getName(), same ? 1 : 0, 0);
            }
            DUE.is("rule 11: parameters of " + method.getName(), method.getParameterCount() <= 7 ? 1 : 0, 1);
        }
    }

    private static int count(String text, String pattern) {
        Matcher matcher = Pattern.compile(pattern).matcher(text);
        int found = 0;
        while (matcher.find()) {
            found++;
        }
        return found;
    }

    /** Methods of the class and of those inside end with a brace at their own depth. */
    private static void longMethods(List<String> lines) {
        for (String indent : new String[] {"    ", "        "}) {
            int start = -1;
            for (int i = 0; i < lines.size(); i++) {
                String line = lines.get(i);
                if (line.matches(indent + "\\S.*\\) \\{")) {
                    start = i;
                }
                if (line.equals(indent + "}") && start >= 0) {
                    DUE.is("rule 11: a method of line " + (start + 1), i - start <= 60 ? 1 : 0, 1);
                    start = -1;
                }
            }
        }
    }
}
