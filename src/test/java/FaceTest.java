import java.io.IOException;
import java.lang.reflect.Field;
import java.lang.reflect.Method;
import java.lang.reflect.Modifier;
import java.nio.file.Files;
import java.nio.file.Path;
import java.util.Arrays;
import java.util.Set;
import java.util.TreeSet;
import java.util.regex.Matcher;
import java.util.regex.Pattern;
import java.util.stream.Collectors;

/** The public face of the document, and the rules of LANGUAGE.md that can be seen from outside. */
public final class FaceTest {
    private static final Check check = new Check();
    private static final String CALL = "    public (?:\\w+ )?\\w+\\([^)]*\\)[^;]*;";

    public static void main(String[] args) throws IOException {
        face();
        members();
        words();
        check.end();
    }

    private static void face() throws IOException {
        check.about("the public face");
        String document = Files.readString(Path.of("../shared/DOC.md"));
        Set<String> due = new TreeSet<>();
        Matcher matcher = Pattern.compile(CALL).matcher(document);
        while (matcher.find()) {
            due.add(matcher.group().trim().replaceAll("\\b(int|char) \\w+([,)])", "$1$2"));
        }
        Set<String> got = new TreeSet<>();
        got.add("public TaskLeveller();");
        for (Method method : TaskLeveller.class.getDeclaredMethods()) {
            if (!Modifier.isPrivate(method.getModifiers())) {
                got.add(told(method));
            }
        }
        check.equal("methods", String.join("\n", due), String.join("\n", got));
        check.equal("how many", 57, got.size());
        check.equal("constructors", 1, TaskLeveller.class.getDeclaredConstructors().length);
        check.equal("final", true, Modifier.isFinal(TaskLeveller.class.getModifiers()));
    }

    private static String told(Method method) {
        String arguments = names(method.getParameterTypes());
        String thrown = names(method.getExceptionTypes());
        return Modifier.toString(method.getModifiers()) + " " + method.getReturnType().getSimpleName() + " "
                + method.getName() + "(" + arguments + ")" + (thrown.isEmpty() ? "" : " throws " + thrown) + ";";
    }

    private static String names(Class<?>[] types) {
        return Arrays.stream(types).map(Class::getSimpleName).collect(Collectors.joining(", "));
    }

    private static void members() {
        check.about("LANGUAGE.md, rules 1, 2, 5 and 11");
        Set<String> face = new TreeSet<>();
        for (Method method : TaskLeveller.class.getMethods()) {
            face.add(method.getName());
        }
        look(TaskLeveller.class);
        for (Class<?> inside : TaskLeveller.class.getDeclaredClasses()) {
            look(inside);
            int modifiers = inside.getModifiers();
            check.equal(inside + " is static", true, Modifier.isStatic(modifiers));
            check.equal(inside + " is public", false, Modifier.isPublic(modifiers) || Modifier.isProtected(modifiers));
        }
        for (Field field : TaskLeveller.class.getDeclaredFields()) {
            check.equal(field + " is private", true, Modifier.isPrivate(field.getModifiers()));
        }
        for (Method method : TaskLeveller.class.getDeclaredMethods()) {
            boolean isHidden = Modifier.isPrivate(method.getModifiers());
            check.equal(method + " is private with a public name", false, isHidden && face.contains(method.getName()));
        }
    }

    private static void look(Class<?> type) {
        int fields = 0;
        for (Field field : type.getDeclaredFields()) {
            if (Modifier.isStatic(field.getModifiers())) {
                check.equal(field + " is final", true, Modifier.isFinal(field.getModifiers()));
            } else {
                fields++;
            }
        }
        check.equal("fields of " + type, true, fields <= 20);
        for (Method method : type.getDeclaredMethods()) {
            check.equal(method + " takes", true, method.getParameterCount() <= 7);
        }
    }

    private static void words() throws IOException {
        check.about("LANGUAGE.md, rules 4, 6 and 13");
        String source = Files.readString(Path.of("src/main/java/TaskLeveller.java"));
        String[] barred = {"\\bcatch\\b", "\\bfinally\\b", "\\bsynchronized\\b", "\\bassert\\b", "->", "::",
            "\\bextends\\b", "Exact\\(", "\\bSystem\\b", "\\bRandom\\b", "\\bpackage\\b", "toString", "hashCode",
            "\\bequals\\b", "ordinal", "\\.name\\(", "[^\\x00-\\x7f]"};
        for (String word : barred) {
            check.equal(word + " is there", false, Pattern.compile(word).matcher(source).find());
        }
        Matcher imports = Pattern.compile("import [^;]*;").matcher(source);
        while (imports.find()) {
            check.equal("import", "import java.util.NoSuchElementException;", imports.group());
        }
    }
}
