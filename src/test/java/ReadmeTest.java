import java.io.IOException;
import java.lang.reflect.Method;
import java.lang.reflect.Modifier;
import java.nio.file.Files;
import java.nio.file.Path;
import java.util.Set;
import java.util.TreeSet;
import java.util.regex.Matcher;
import java.util.regex.Pattern;

/** The example in README.md: its calls are made as they stand there, and answer what it tells. */
public final class ReadmeTest {
    private static final Pattern MADE = Pattern.compile("GlobalMinCut graph = new GlobalMinCut\\((\\d+)\\);.*");
    private static final Pattern CALL = Pattern.compile("graph\\.(\\w+)\\((.*)\\); *// (\\d+|[A-Z_]+)\\b.*");

    public static void main(String[] args) throws IOException, ReflectiveOperationException {
        Set<String> shown = new TreeSet<>();
        GlobalMinCut graph = null;
        for (String line : example().split("\n")) {
            Matcher made = MADE.matcher(line);
            Matcher call = CALL.matcher(line);
            if (made.matches()) {
                graph = new GlobalMinCut(Integer.parseInt(made.group(1)));
            } else if (call.matches()) {
                shown.add(call.group(1));
                Check.due(line, answerOf(graph, call.group(1), call.group(2)), told(call.group(3)));
            } else {
                Check.due("a call and its answer are read from '" + line + "'", line.isEmpty() ? 1 : 0, 1);
            }
        }
        Check.due("every call is shown, not only " + shown, shown.equals(publicCalls()) ? 1 : 0, 1);
        Check.end();
    }

    private static String example() throws IOException {
        String readme = Files.readString(Path.of("README.md"));
        int start = readme.indexOf("```java\n") + "```java\n".length();
        return readme.substring(start, readme.indexOf("```", start));
    }

    private static int answerOf(GlobalMinCut graph, String name, String arguments)
            throws ReflectiveOperationException {
        Method method = methodOf(name);
        String[] words = arguments.isEmpty() ? new String[0] : arguments.split(", ");
        Object[] values = new Object[words.length];
        for (int i = 0; i < words.length; i++) {
            boolean isNumber = method.getParameterTypes()[i] == int.class;
            values[i] = isNumber ? (Object) Integer.valueOf(words[i]) : Boolean.valueOf(words[i]);
        }
        return (int) method.invoke(graph, values);
    }

    private static Method methodOf(String name) throws NoSuchMethodException {
        for (Method method : GlobalMinCut.class.getDeclaredMethods()) {
            if (method.getName().equals(name) && Modifier.isPublic(method.getModifiers())) {
                return method;
            }
        }
        throw new NoSuchMethodException(name);
    }

    private static Set<String> publicCalls() {
        Set<String> names = new TreeSet<>();
        for (Method method : GlobalMinCut.class.getDeclaredMethods()) {
            if (Modifier.isPublic(method.getModifiers())) {
                names.add(method.getName());
            }
        }
        return names;
    }

    private static int told(String answer) throws ReflectiveOperationException {
        boolean isNumber = Character.isDigit(answer.charAt(0));
        return isNumber ? Integer.parseInt(answer) : GlobalMinCut.class.getField(answer).getInt(null);
    }
}
