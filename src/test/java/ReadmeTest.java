import java.io.IOException;
import java.lang.reflect.InvocationTargetException;
import java.lang.reflect.Method;
import java.lang.reflect.Modifier;
import java.nio.file.Files;
import java.nio.file.Path;
import java.util.Set;
import java.util.TreeSet;
import java.util.regex.Matcher;
import java.util.regex.Pattern;

/** The examples of README.md: each call answers what stands behind it, and README.md names every call of the face. */
public final class ReadmeTest {

    private static final Path README = Path.of("README.md");
    private static final Pattern CALL = Pattern.compile("x\\.(\\w+)\\((.*)\\); +// = (throws \\w+|[^\\s:]+).*");
    private static final String NEW_OBJECT = "CnfPreprocessor x = new CnfPreprocessor();";
    private static int checks = 0;
    private static int wrong = 0;

    public static void main(String[] args) throws IOException, IllegalAccessException {
        examples();
        names();
        System.out.println(checks + " checks of README.md, " + wrong + " went wrong");
        if (wrong != 0) {
            System.exit(1);
        }
    }

    private static void check(String what, String got, String due) {
        checks++;
        if (!got.equals(due)) {
            wrong++;
            System.out.println(what + ": answered " + got + ", due is " + due);
        }
    }

    private static void examples() throws IOException, IllegalAccessException {
        CnfPreprocessor x = null;
        boolean inJava = false;
        int examples = 0;
        for (String line : Files.readAllLines(README)) {
            if (line.startsWith("```")) {
                inJava = line.equals("```java");
                x = null;
            } else if (inJava && line.equals(NEW_OBJECT)) {
                x = new CnfPreprocessor();
                examples++;
            } else if (inJava) {
                Matcher call = CALL.matcher(line);
                boolean readable = x != null && call.matches();
                check(line, readable ? answer(x, call.group(1), call.group(2)) : "nothing that can be read",
                        readable ? call.group(3) : "a call and its answer");
            }
        }
        check("there are examples", examples > 0 ? "yes" : "no", "yes");
    }

    private static String answer(CnfPreprocessor x, String name, String inside) throws IllegalAccessException {
        String[] words = inside.isEmpty() ? new String[0] : inside.split(", ");
        for (Method method : CnfPreprocessor.class.getMethods()) {
            if (method.getName().equals(name) && method.getParameterCount() == words.length) {
                Object[] values = new Object[words.length];
                for (int i = 0; i < words.length; i++) {
                    values[i] = valueOf(words[i], method.getParameterTypes()[i]);
                }
                try {
                    return String.valueOf(method.invoke(x, values));
                } catch (InvocationTargetException e) {
                    return "throws " + e.getCause().getClass().getSimpleName();
                }
            }
        }
        return "no such call";
    }

    private static Object valueOf(String word, Class<?> type) {
        if (type == boolean.class) {
            return Boolean.valueOf(word);
        }
        return word.startsWith("'") ? (int) word.charAt(1) : Integer.parseInt(word);
    }

    private static void names() throws IOException {
        String readme = Files.readString(README);
        Set<String> missing = new TreeSet<>();
        for (Method method : CnfPreprocessor.class.getDeclaredMethods()) {
            boolean isFace = Modifier.isPublic(method.getModifiers());
            if (isFace && !readme.contains("`" + method.getName() + "`")) {
                missing.add(method.getName());
            }
        }
        check("calls that README.md does not name", missing.toString(), "[]");
    }
}
