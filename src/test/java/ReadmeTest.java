import java.io.IOException;
import java.lang.reflect.InvocationTargetException;
import java.lang.reflect.Method;
import java.lang.reflect.Modifier;
import java.nio.file.Files;
import java.nio.file.Path;
import java.util.regex.Matcher;
import java.util.regex.Pattern;

/** README.md against the class: its example answers as it says, and it tells of each call of the face. */
public final class ReadmeTest {
    private static final Path README = Path.of("README.md");
    private static final Pattern EXAMPLE = Pattern.compile("(?s)```java\\R(.*?)```");
    private static final Pattern CALL = Pattern.compile("x\\.(\\w+)\\((.*)\\); +// (-?\\d+).*");
    private static int wrong = 0;

    private static void due(String what, int got, int want) {
        if (got != want) {
            wrong++;
            System.out.println(what + " answered " + got + ", due is " + want);
        }
    }

    private static void fault(String what) {
        wrong++;
        System.out.println(what);
    }

    private static Object number(String text) {
        return text.startsWith("'") ? text.charAt(1) : Integer.parseInt(text);
    }

    private static int answer(SwissRounds x, String name, String arguments)
            throws IllegalAccessException, InvocationTargetException {
        String[] texts = arguments.isEmpty() ? new String[0] : arguments.split(", *");
        Object[] values = new Object[texts.length];
        for (int i = 0; i < texts.length; i++) {
            values[i] = number(texts[i]);
        }
        for (Method m : SwissRounds.class.getDeclaredMethods()) {
            if (m.getName().equals(name) && m.getParameterCount() == values.length) {
                return (int) m.invoke(x, values);
            }
        }
        throw new IllegalArgumentException("no such call: " + name);
    }

    private static void runExample(String text) throws IllegalAccessException, InvocationTargetException {
        Matcher example = EXAMPLE.matcher(text);
        String[] lines = example.find() ? example.group(1).split("\\R") : new String[] {""};
        if (lines.length < 2 || !lines[0].equals("SwissRounds x = new SwissRounds();")) {
            fault("README.md has no example that begins with a new object");
        }
        SwissRounds x = new SwissRounds();
        for (int i = 1; i < lines.length; i++) {
            Matcher call = CALL.matcher(lines[i]);
            if (call.matches()) {
                due(lines[i], answer(x, call.group(1), call.group(2)), Integer.parseInt(call.group(3)));
            } else {
                fault("not a call with its answer: " + lines[i]);
            }
        }
    }

    private static void findCalls(String text) {
        for (Method m : SwissRounds.class.getDeclaredMethods()) {
            if (Modifier.isPublic(m.getModifiers()) && !text.contains("`" + m.getName() + "(")) {
                fault("README.md does not tell of " + m.getName());
            }
        }
        if (!text.contains("512 calls")) {
            fault("README.md does not tell for how many calls an object is meant");
        }
    }

    public static void main(String[] args) throws IOException, IllegalAccessException, InvocationTargetException {
        String text = Files.readString(README);
        runExample(text);
        findCalls(text);
        System.out.println(wrong == 0 ? "ReadmeTest: README.md is as due" : "ReadmeTest: " + wrong + " faults");
        if (wrong != 0) {
            System.exit(1);
        }
    }
}
