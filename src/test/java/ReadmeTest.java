import java.io.File;
import java.io.IOException;
import java.lang.reflect.Field;
import java.lang.reflect.Method;
import java.lang.reflect.Modifier;
import java.nio.file.Files;
import java.nio.file.Path;
import java.util.TreeSet;
import java.util.regex.Matcher;
import java.util.regex.Pattern;

/**
 * README.md is as the class is: each call in it that has an answer beside it
 * ("// 14: what A owes") answers so, in the order in which they stand.
 */
public final class ReadmeTest {
    private static final Pattern CALL = Pattern.compile("choir\\.(\\w+)\\((.*)\\);\\s+// (-?\\d+|[A-Z]+)(:.*)?");
    private static final Due DUE = new Due();
    private static final TreeSet<String> CALLED = new TreeSet<>();
    private static final TreeSet<Long> ANSWERED = new TreeSet<>();

    public static void main(String[] args) throws IOException, ReflectiveOperationException {
        String text = Files.readString(Path.of("README.md"));
        DebtChoir choir = null;
        boolean inside = false;
        for (String line : text.split("\n")) {
            if (line.startsWith("```")) {
                inside = line.equals("```java");
            } else if (inside && line.equals("DebtChoir choir = new DebtChoir();")) {
                choir = new DebtChoir();
            } else if (inside) {
                Matcher call = CALL.matcher(line);
                DUE.is("a call and its answer: " + line, call.matches() && choir != null ? 1 : 0, 1);
                if (call.matches() && choir != null) {
                    answers(choir, call);
                }
            }
        }
        names(text);
        DUE.end();
    }

    private static void answers(DebtChoir choir, Matcher call) throws ReflectiveOperationException {
        long due = numberOf(call.group(3));
        DUE.is(call.group(), ask(choir, call.group(1), call.group(2)), due);
        CALLED.add(call.group(1));
        ANSWERED.add(due);
    }

    private static long ask(DebtChoir choir, String name, String list) throws ReflectiveOperationException {
        String[] words = list.isEmpty() ? new String[0] : list.split(", ");
        Object[] numbers = new Object[words.length];
        for (int i = 0; i < words.length; i++) {
            numbers[i] = words[i].startsWith("'") ? (int) words[i].charAt(1) : Integer.parseInt(words[i]);
        }
        for (Method method : DebtChoir.class.getMethods()) {
            if (method.getName().equals(name) && method.getParameterCount() == words.length) {
                return ((Number) method.invoke(choir, numbers)).longValue();
            }
        }
        throw new NoSuchMethodException(name);
    }

    private static long numberOf(String answer) throws ReflectiveOperationException {
        return Character.isLetter(answer.charAt(0))
                ? DebtChoir.class.getField(answer).getLong(null) : Long.parseLong(answer);
    }

    /** Each call is in a table and in an example, each constant and each test is named. */
    private static void names(String text) throws IllegalAccessException {
        for (Method method : DebtChoir.class.getDeclaredMethods()) {
            if (Modifier.isPublic(method.getModifiers())) {
                String name = method.getName();
                DUE.is("a call without example: " + name, CALLED.contains(name) ? 1 : 0, 1);
                DUE.is("a call in no table: " + name, text.contains("\n| `" + name + "(") ? 1 : 0, 1);
            }
        }
        for (Field field : DebtChoir.class.getFields()) {
            boolean named = text.contains("`" + field.getName() + "`") && text.contains(" " + field.getLong(null) + " ")
                    || text.contains("`" + field.getName() + "` (" + field.getLong(null) + ")");
            DUE.is("a constant and its value: " + field.getName(), named ? 1 : 0, 1);
        }
        for (long refusal : new long[] {-1, -2, -3, -5, -6, -1000000000000000002L}) {
            DUE.is("an example of " + refusal, ANSWERED.contains(refusal) ? 1 : 0, 1);
        }
        String[] files = new File("src/test/java").list();
        DUE.is("tests", files != null && files.length > 0 ? 1 : 0, 1);
        for (String file : files == null ? new String[0] : files) {
            DUE.is("named: " + file, text.contains("`" + file.replace(".java", "") + "`") ? 1 : 0, 1);
        }
    }
}
