import java.lang.reflect.Constructor;
import java.lang.reflect.Field;
import java.lang.reflect.Method;
import java.lang.reflect.Modifier;
import java.nio.file.Files;
import java.nio.file.Path;
import java.util.Arrays;
import java.util.Set;
import java.util.TreeSet;
import java.util.regex.Matcher;
import java.util.regex.Pattern;

/** The rules of LANGUAGE.md that can be seen from outside: the face, and words that may not stand in the source. */
public final class LanguageTest {
    private static final Set<String> FACE = new TreeSet<>(Arrays.asList("type", "clear", "run", "put", "cut", "split",
            "join", "undo", "line", "sign", "cell", "shown", "align", "count", "digest", "keep", "back"));
    private static final Set<String> CONSTANTS = new TreeSet<>(Arrays.asList("BAD", "STATE", "FULL", "NONE"));
    private static final String[] FORBIDDEN = {"throw", "throws", "try", "catch", "synchronized", "assert", "import",
        "package", "Object", "equals", "hashCode", "toString", "float", "double", "Exact", "->", "::", "@"};
    private static final Set<String> CALLED = new TreeSet<>(Arrays.asList("Math.max", "Math.min", "System.arraycopy",
            "Script.isSign"));
    private static final int MOST_ROWS_OF_A_METHOD = 60;
    private static final Due due = new Due();

    public static void main(String[] args) throws Exception {
        face();
        insideClasses();
        source(Files.readString(Path.of(args[0])));
        due.end("LanguageTest");
    }

    private static void face() {
        Class<?> face = ElasticTabs.class;
        due.holds("public and final", Modifier.isPublic(face.getModifiers()) && Modifier.isFinal(face.getModifiers()));
        Set<String> methods = new TreeSet<>();
        for (Method method : face.getDeclaredMethods()) {
            if (Modifier.isPublic(method.getModifiers())) {
                methods.add(method.getName());
                continue;
            }
            due.holds(method + " is private", Modifier.isPrivate(method.getModifiers()));
            due.holds(method + " has a name of its own", !FACE.contains(method.getName()));
        }
        due.is("methods", methods.toString(), FACE.toString());
        Set<String> constants = new TreeSet<>();
        for (Field field : face.getDeclaredFields()) {
            if (Modifier.isPublic(field.getModifiers())) {
                constants.add(field.getName());
            } else {
                due.holds(field + " is private", Modifier.isPrivate(field.getModifiers()));
            }
            due.holds(field + " is final if static", staticIsFinal(field));
        }
        due.is("constants", constants.toString(), CONSTANTS.toString());
        Constructor<?>[] constructors = face.getDeclaredConstructors();
        due.is("constructors", constructors.length, 1);
        due.holds("a public one", Modifier.isPublic(constructors[0].getModifiers()));
    }

    private static boolean staticIsFinal(Field field) {
        return !Modifier.isStatic(field.getModifiers()) || Modifier.isFinal(field.getModifiers());
    }

    private static void insideClasses() {
        Class<?>[] inside = ElasticTabs.class.getDeclaredClasses();
        due.holds("at most twelve classes", inside.length <= 12);
        for (Class<?> one : inside) {
            due.holds(one + " is static", Modifier.isStatic(one.getModifiers()));
            due.holds(one + " is not seen outside",
                    !Modifier.isPublic(one.getModifiers()) && !Modifier.isProtected(one.getModifiers()));
            due.holds(one + " has few fields", one.getDeclaredFields().length <= 20);
            for (Field field : one.getDeclaredFields()) {
                due.holds(field + " is final if static", staticIsFinal(field));
            }
            for (Method method : one.getDeclaredMethods()) {
                due.holds(method + " has a name of its own", !FACE.contains(method.getName()));
                due.holds(method + " takes few", method.getParameterCount() <= 7);
            }
        }
    }

    private static void source(String text) {
        String code = text.replaceAll("(?s)/\\*.*?\\*/", " ").replaceAll("//[^\n]*", " ");
        for (String word : FORBIDDEN) {
            String edge = Character.isLetter(word.charAt(0)) ? "\\b" : "";
            Matcher found = Pattern.compile(edge + Pattern.quote(word) + edge).matcher(code);
            due.holds("no " + word + " in the source", !found.find());
        }
        due.holds("signs 1 to 127 alone", text.chars().allMatch(c -> c > 0 && c < 128));
        library(code);
        methods(code);
    }

    /** Rule 4: what is called of a class by its name; what is called of objects is of the project's own or of String. */
    private static void library(String code) {
        Matcher called = Pattern.compile("\\b([A-Z]\\w*\\.\\w+)\\(").matcher(code);
        while (called.find()) {
            due.holds(called.group(1) + " may be called", CALLED.contains(called.group(1)));
        }
    }

    /** Rule 11: a method opens and closes with the same indent, so that its rows can be counted. */
    private static void methods(String code) {
        Matcher method = Pattern.compile("(?m)^( {4}| {8})(?! )[^\n=;]*\\([^\n;]*\\) \\{$(?s:.*?)^\\1\\}$").matcher(code);
        int found = 0;
        while (method.find()) {
            long rows = method.group().lines().count();
            due.holds(method.group().lines().findFirst().orElse("") + " is short", rows <= MOST_ROWS_OF_A_METHOD);
            found++;
        }
        due.holds("methods were found", found > 60);
    }
}
