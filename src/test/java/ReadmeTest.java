import java.io.IOException;
import java.lang.reflect.Field;
import java.lang.reflect.Method;
import java.lang.reflect.Modifier;
import java.nio.file.Files;
import java.nio.file.Path;
import java.util.List;
import java.util.Set;
import java.util.TreeSet;
import java.util.regex.Matcher;
import java.util.regex.Pattern;

/** What README.md shows as an answer is what the class answers; it shows every call of the face. */
public final class ReadmeTest extends Asked {
    private static final Pattern MADE = Pattern.compile("Bagatelle x = new Bagatelle\\(\\);");
    private static final Pattern TOLD = Pattern.compile("tell\\(x, (\\d), \"([^\"]*)\"\\);");
    private static final Pattern CALLED = Pattern.compile("x\\.(\\w+)\\(([^)]*)\\);");
    private static final Pattern ANSWER = Pattern.compile("\\s*// (-?\\d+)(: .*)?");
    private static final Pattern REMARK = Pattern.compile("(\\s*//.*)?");

    private static final Set<String> shown = new TreeSet<>();
    private static Bagatelle x = null;

    public static void main(String[] args) throws IOException, ReflectiveOperationException {
        List<String> lines = Files.readAllLines(Path.of(args[1]));
        boolean code = false;
        for (int i = 0; i < lines.size(); i++) {
            String line = lines.get(i);
            if (line.startsWith("```")) {
                code = line.equals("```java");
            } else if (code && !line.isBlank() && !line.startsWith("static void tell(") && !line.matches("[ }].*")) {
                follow("line " + (i + 1) + ": ", line);
            }
        }
        for (Method m : Bagatelle.class.getDeclaredMethods()) {
            if (Modifier.isPublic(m.getModifiers())) {
                dueTrue("README.md shows " + m.getName() + " with an answer", shown.contains(m.getName()));
            }
        }
        finish();
    }

    private static void follow(String where, String line) throws ReflectiveOperationException {
        Matcher made = MADE.matcher(line);
        Matcher told = TOLD.matcher(line);
        Matcher called = CALLED.matcher(line);
        if (made.lookingAt()) {
            x = new Bagatelle();
            dueTrue(where + "only a remark behind it", REMARK.matcher(line.substring(made.end())).matches());
        } else if (told.lookingAt()) {
            typed(x, Integer.parseInt(told.group(1)), told.group(2));
            dueTrue(where + "only a remark behind it", REMARK.matcher(line.substring(told.end())).matches());
        } else if (called.lookingAt()) {
            answer(where, called.group(1), called.group(2), line.substring(called.end()));
        } else {
            dueTrue(where + "can be read: " + line, false);
        }
    }

    private static void answer(String where, String name, String arguments, String rest) throws ReflectiveOperationException {
        Matcher answer = ANSWER.matcher(rest);
        boolean told = answer.matches();
        dueTrue(where + "tells an answer", told);
        if (told) {
            due(where + name + "(" + arguments + ")", Digests.call(x, name, numbers(arguments)), Long.parseLong(answer.group(1)));
            shown.add(name);
        }
    }

    private static int[] numbers(String arguments) throws ReflectiveOperationException {
        if (arguments.isEmpty()) {
            return new int[0];
        }
        String[] words = arguments.split(", ");
        int[] numbers = new int[words.length];
        for (int i = 0; i < words.length; i++) {
            numbers[i] = number(words[i]);
        }
        return numbers;
    }

    private static int number(String word) throws ReflectiveOperationException {
        if (word.startsWith("'")) {
            return word.charAt(1);
        }
        if (word.startsWith("Bagatelle.")) {
            Field constant = Bagatelle.class.getField(word.substring("Bagatelle.".length()));
            return constant.getInt(null);
        }
        return Integer.parseInt(word);
    }
}
