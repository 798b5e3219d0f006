import java.io.IOException;
import java.lang.reflect.Constructor;
import java.lang.reflect.Field;
import java.lang.reflect.Method;
import java.lang.reflect.Modifier;
import java.nio.file.Files;
import java.nio.file.Path;
import java.util.ArrayList;
import java.util.Arrays;
import java.util.List;
import java.util.Map;
import java.util.Set;
import java.util.TreeMap;
import java.util.TreeSet;
import java.util.regex.Matcher;
import java.util.regex.Pattern;

/** The rules of LANGUAGE.md that can be looked up in the file or in the compiled classes. */
public final class LanguageTest {
    private static final String FACE = "ask(1) at(3) back(0) ball(2) bend(2) best(0) chance(3) copy(5) count(1) cup(2) "
        + "digest(0) ends(2) event(3) fault(1) forces(1) forget(0) get(3) jam(1) kind(1) late(0) lay(4) lose(1) never(0) "
        + "pin(2) read(1) room(1) seen(4) sees(3) sheet(3) shoot(2) spare(1) sum(1) sundays(3) time(2) type(2) undo(1) "
        + "wipe(1) write(2)";
    private static final String[] FORBIDDEN = {
        "\\b(throw|throws|try|catch|finally|synchronized|assert|volatile|transient|native|strictfp|var|yield|package)\\b",
        "->", "::", "Exact\\b", "\\b(System\\.(?!arraycopy)|Thread|Runtime|Random|Object|Class|Scanner|Optional|Stream)\\b",
        "\\b(HashMap|Map|Set|HashSet|LinkedList|Deque|BigInteger|BigDecimal|Comparator|Collections)\\b",
        "\\.(equals|hashCode|toString|format|valueOf|sort|getClass)\\b", "\"\\s*\\+|\\+\\s*\"", "@\\w+", "\\bstatic\\s*\\{",
        "\\b(Integer|Long|Math|Short|Byte|Character)\\.[A-Z]", "\\b(Short|Byte|Character|Double|Float|Boolean)\\b"};
    private static final int MOST_DEEP = 8;
    private static final Pattern OPENING = Pattern.compile(
        "(    |        )(?:(?:public|private|static|final) )*(?:[\\w\\[\\]]+ )?(\\w+)\\([^)]*\\) \\{");

    private static int wrong = 0;

    private static void rule(int number, boolean kept, String what) {
        if (!kept) {
            wrong++;
            System.out.println("rule " + number + ": " + what);
        }
    }

    public static void main(String[] args) throws IOException {
        String source = Files.readString(Path.of(args[0]));
        lookAtText(source);
        lookAtMethods(source);
        lookAtDepth(withoutComments(source));
        lookAtFace();
        List<Class<?>> classes = new ArrayList<>(Arrays.asList(Bagatelle.class.getDeclaredClasses()));
        rule(11, classes.size() <= 11, "more than twelve classes");
        for (Class<?> c : classes) {
            rule(2, Modifier.isStatic(c.getModifiers()), c + " is not static");
            rule(1, !Modifier.isPublic(c.getModifiers()) && !Modifier.isProtected(c.getModifiers()), c + " is open");
        }
        classes.add(Bagatelle.class);
        classes.forEach(LanguageTest::lookAtClass);
        System.out.println(wrong == 0 ? "the rules are kept" : wrong + " breaches");
        System.exit(wrong == 0 ? 0 : 1);
    }

    private static void lookAtText(String source) {
        rule(3, source.chars().allMatch(c -> c == '\n' || c >= 32 && c < 127), "a sign beyond plain ones");
        String code = withoutComments(source);
        for (String word : FORBIDDEN) {
            Matcher m = Pattern.compile(word).matcher(code);
            if (m.find()) {
                rule(4, false, "the file has " + m.group());
            }
        }
        Matcher imports = Pattern.compile("import ([^;]+);").matcher(code);
        while (imports.find()) {
            rule(4, List.of("java.util.Arrays", "java.util.ArrayList", "java.util.List").contains(imports.group(1)),
                "import of " + imports.group(1));
        }
    }

    private static String withoutComments(String source) {
        return source.replaceAll("(?s)/\\*.*?\\*/", "").replaceAll("//[^\n]*", "");
    }

    private static void lookAtMethods(String source) {
        String[] lines = source.split("\n");
        int start = -1;
        for (int i = 0; i < lines.length; i++) {
            String line = lines[i];
            rule(11, line.length() <= 120, "line " + (i + 1) + " is long");
            boolean opens = line.matches("(    |        )(public|private|static|[\\w\\[\\]]+).*\\).*\\{") && !line.contains(" class ");
            if (opens && start < 0) {
                start = i;
            } else if (start >= 0 && line.equals(lines[start].replaceAll("\\S.*", "") + "}")) {
                rule(11, i - start <= 60, "the method at line " + (start + 1) + " is long");
                start = -1;
            }
        }
    }

    /** Methods of like names count as one, so that a chain of calls is rather found too deep than too shallow. */
    private static void lookAtDepth(String code) {
        Map<String, String> bodies = new TreeMap<>();
        String name = null;
        String end = null;
        for (String line : code.split("\n")) {
            Matcher opening = OPENING.matcher(line);
            if (name == null && opening.matches()) {
                name = opening.group(2);
                end = opening.group(1) + "}";
            } else if (name != null && line.equals(end)) {
                name = null;
            } else if (name != null) {
                bodies.merge(name, line, (above, below) -> above + "\n" + below);
            }
        }
        rule(11, bodies.size() > 60, "the methods can't be found: " + bodies.keySet());
        Map<String, Integer> depths = new TreeMap<>();
        for (String each : bodies.keySet()) {
            int depth = depth(each, bodies, depths, 0);
            rule(11, depth <= MOST_DEEP, each + " goes " + depth + " deep");
        }
    }

    private static int depth(String name, Map<String, String> bodies, Map<String, Integer> depths, int above) {
        if (depths.containsKey(name) || above > 2 * MOST_DEEP) {
            return depths.getOrDefault(name, 2 * MOST_DEEP);
        }
        int deepest = 0;
        Matcher call = Pattern.compile("\\b(\\w+)\\(").matcher(bodies.get(name));
        while (call.find()) {
            if (bodies.containsKey(call.group(1))) {
                deepest = Math.max(deepest, depth(call.group(1), bodies, depths, above + 1));
            }
        }
        depths.put(name, deepest + 1);
        return deepest + 1;
    }

    private static void lookAtFace() {
        Set<String> face = new TreeSet<>();
        Set<String> names = new TreeSet<>();
        for (Method m : Bagatelle.class.getDeclaredMethods()) {
            if (Modifier.isPublic(m.getModifiers())) {
                face.add(m.getName() + "(" + m.getParameterCount() + ")");
                names.add(m.getName());
            } else {
                rule(1, m.isSynthetic() || Modifier.isPrivate(m.getModifiers()), m + " is not private");
            }
        }
        rule(1, String.join(" ", face).equals(FACE), "the face is " + face);
        List<Class<?>> classes = new ArrayList<>(Arrays.asList(Bagatelle.class.getDeclaredClasses()));
        classes.add(Bagatelle.class);
        for (Class<?> c : classes) {
            for (Method m : c.getDeclaredMethods()) {
                boolean own = c == Bagatelle.class && Modifier.isPublic(m.getModifiers());
                rule(1, own || !names.contains(m.getName()), m + " bears a name of the face");
            }
        }
        rule(1, Modifier.isFinal(Bagatelle.class.getModifiers()), "the class is not final");
        for (Constructor<?> c : Bagatelle.class.getDeclaredConstructors()) {
            rule(1, Modifier.isPublic(c.getModifiers()) && c.getParameterCount() == 0, c + " is not of the face");
        }
        for (Field f : Bagatelle.class.getDeclaredFields()) {
            boolean constant = List.of("NONE", "BAD", "NOT", "FULL").contains(f.getName());
            rule(1, Modifier.isPublic(f.getModifiers()) == constant, f + " is open or shut");
            rule(1, constant || Modifier.isPrivate(f.getModifiers()), f + " is not private");
        }
    }

    private static void lookAtClass(Class<?> c) {
        int fields = 0;
        for (Field f : c.getDeclaredFields()) {
            boolean isStatic = Modifier.isStatic(f.getModifiers());
            rule(5, !isStatic || Modifier.isFinal(f.getModifiers()), f + " is static and not final");
            fields += isStatic ? 0 : 1;
        }
        rule(11, fields <= 20, c + " has " + fields + " fields");
        for (Method m : c.getDeclaredMethods()) {
            rule(11, m.getParameterCount() <= 7, m + " takes too many");
            rule(11, m.isSynthetic() || m.getExceptionTypes().length == 0, m + " throws");
        }
    }
}
