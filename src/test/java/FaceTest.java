import java.io.IOException;
import java.lang.reflect.Constructor;
import java.lang.reflect.Field;
import java.lang.reflect.Member;
import java.lang.reflect.Method;
import java.lang.reflect.Modifier;
import java.nio.file.Files;
import java.nio.file.Path;
import java.util.ArrayList;
import java.util.Arrays;
import java.util.List;
import java.util.Set;
import java.util.TreeSet;
import java.util.regex.Matcher;
import java.util.regex.Pattern;
import java.util.stream.Collectors;

/** "The public face" as it stands in the document, held against the compiled class and its source. */
public final class FaceTest extends Asked {
    private static final Pattern CONSTANT = Pattern.compile("([A-Z]+) = (-?\\d+)");
    private static final Pattern METHOD = Pattern.compile("public (int|long) (\\w+)\\(([^)]*)\\)");
    private static final Pattern GROUP = Pattern.compile("Ahead of the calls (.+) the interface says: (---- .+)\\.");

    public static void main(String[] args) throws IOException, IllegalAccessException {
        String source = Files.readString(Path.of(args[0]));
        String document = Files.readString(Path.of(args[2]));
        String face = document.substring(document.indexOf("```java"), document.indexOf("## Terms"));
        constants(face);
        constructor(face);
        methods(face);
        nothingBeside(face);
        groups(source, document);
        finish();
    }

    private static void constants(String face) throws IllegalAccessException {
        Set<String> told = new TreeSet<>();
        Matcher m = CONSTANT.matcher(face);
        while (m.find()) {
            told.add(m.group(1) + " = " + m.group(2));
        }
        Set<String> open = new TreeSet<>();
        for (Field f : Bagatelle.class.getFields()) {
            dueTrue(f + " is a constant int", f.getType() == int.class
                && Modifier.isStatic(f.getModifiers()) && Modifier.isFinal(f.getModifiers()));
            open.add(f.getName() + " = " + f.getInt(null));
        }
        alike("the constants", open, told);
    }

    private static void constructor(String face) {
        dueTrue("the document's constructor takes nothing", face.contains("public Bagatelle();"));
        Constructor<?>[] made = Bagatelle.class.getDeclaredConstructors();
        due("constructors", made.length, 1);
        due("what the constructor takes", made[0].getParameterCount(), 0);
        dueTrue("the constructor is public", Modifier.isPublic(made[0].getModifiers()));
        dueTrue("the class is public and final", Modifier.isPublic(Bagatelle.class.getModifiers())
            && Modifier.isFinal(Bagatelle.class.getModifiers()));
    }

    private static void methods(String face) {
        Set<String> told = new TreeSet<>();
        Matcher m = METHOD.matcher(face);
        while (m.find()) {
            told.add(m.group(1) + " " + m.group(2) + "(" + m.group(3).replaceAll("(int|long) \\w+", "$1").replace(", ", ",") + ")");
        }
        Set<String> open = new TreeSet<>();
        for (Method method : Bagatelle.class.getDeclaredMethods()) {
            if (Modifier.isPublic(method.getModifiers())) {
                dueTrue(method + " is of an object", !Modifier.isStatic(method.getModifiers()));
                open.add(method.getReturnType() + " " + method.getName() + Arrays.stream(method.getParameterTypes())
                    .map(Class::getName).collect(Collectors.joining(",", "(", ")")));
            }
        }
        due("calls of the document", told.size(), 38);
        alike("the calls", open, told);
    }

    private static void nothingBeside(String face) {
        List<Member> members = new ArrayList<>(List.of(Bagatelle.class.getDeclaredFields()));
        members.addAll(List.of(Bagatelle.class.getDeclaredMethods()));
        for (Member member : members) {
            boolean shut = member.isSynthetic() || Modifier.isPrivate(member.getModifiers());
            dueTrue(member + " is private or of the face", shut || face.matches("(?s).*\\b" + member.getName() + "\\b.*"));
        }
        due("classes that are public", Bagatelle.class.getClasses().length, 0);
        dueTrue("it is nothing more than itself", Bagatelle.class.getSuperclass() == Object.class
            && Bagatelle.class.getInterfaces().length == 0);
    }

    /** The interface says a line ahead of each group of calls, and the calls stand as in the document. */
    private static void groups(String source, String document) {
        List<String> told = new ArrayList<>();
        Matcher m = GROUP.matcher(document);
        while (m.find()) {
            told.add("// " + m.group(2));
            told.addAll(List.of(m.group(1).replaceAll("[` ]", "").split(",")));
        }
        List<String> written = new ArrayList<>();
        Matcher line = Pattern.compile("(?m)^    (// ---- .+)$|^    " + METHOD.pattern()).matcher(source);
        while (line.find()) {
            written.add(line.group(1) != null ? line.group(1) : line.group(3));
        }
        dueTrue("the groups are " + written + ", due are " + told, written.equals(told));
    }

    private static void alike(String what, Set<String> got, Set<String> want) {
        dueTrue(what + " are " + got + ", due are " + want, got.equals(want));
    }
}
