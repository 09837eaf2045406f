import java.lang.reflect.Method;
import java.lang.reflect.Modifier;
import java.nio.file.Files;
import java.nio.file.Path;
import java.util.regex.Matcher;
import java.util.regex.Pattern;

/** README.md tells how to use the class: its example must answer as it says, and it must name every call. */
public final class ReadmeTest {
    private static final Pattern EXAMPLE = Pattern.compile("(?s)```java\n(.*?)```");
    private static final Pattern TEXT = Pattern.compile("for \\(char c : \"([^\"]*)\"\\.toCharArray");
    private static final Pattern CALL = Pattern.compile("tabs\\.(\\w+)\\((.*?)\\);\\s*// ('.'|-?\\d+): .*");
    private static final String[] COMMANDS = {"add L T", "drop L", "split L P", "join L", "put L P S", "cut L P",
        "align K W", "pad N", "least N"};
    private static final Due due = new Due();

    /** The test is given the path of the class, which stands in src/main/java of the project. */
    public static void main(String[] args) throws Exception {
        Path root = Path.of(args[0]).toAbsolutePath().getParent().getParent().getParent().getParent();
        String page = Files.readString(root.resolve("README.md"));
        Matcher example = EXAMPLE.matcher(page);
        due.holds("there is an example", example.find());
        answersAsTold(example.group(1));
        namesAll(page.substring(example.end()));
        due.end("ReadmeTest");
    }

    private static void answersAsTold(String example) throws Exception {
        ElasticTabs tabs = new ElasticTabs();
        Matcher text = TEXT.matcher(example);
        due.holds("a text is typed", text.find());
        Due.type(tabs, text.group(1));
        int calls = 0;
        for (String row : example.substring(text.end()).split("\n")) {
            Matcher call = CALL.matcher(row);
            if (call.matches()) {
                due.is(row, answer(tabs, call.group(1), call.group(2)), number(call.group(3)));
                calls++;
            } else {
                due.holds("a row without an answer: " + row, !row.contains("//"));
            }
        }
        due.holds("calls are told", calls > 0);
    }

    private static long answer(ElasticTabs tabs, String name, String told) throws Exception {
        String[] words = told.isEmpty() ? new String[0] : told.split(", ");
        Class<?>[] kinds = new Class<?>[words.length];
        Object[] values = new Object[words.length];
        for (int i = 0; i < words.length; i++) {
            kinds[i] = int.class;
            values[i] = number(words[i]);
        }
        return ((Number) ElasticTabs.class.getMethod(name, kinds).invoke(tabs, values)).longValue();
    }

    private static int number(String told) {
        return told.startsWith("'") ? told.charAt(1) : Integer.parseInt(told);
    }

    private static void namesAll(String tables) {
        for (Method method : ElasticTabs.class.getDeclaredMethods()) {
            if (Modifier.isPublic(method.getModifiers())) {
                due.holds(method + " is told", tables.contains("`" + method.getName() + "("));
            }
        }
        for (String command : COMMANDS) {
            due.holds(command + " is told", tables.contains("`" + command + "`"));
        }
    }
}
