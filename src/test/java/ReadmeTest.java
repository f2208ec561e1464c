import java.io.IOException;
import java.lang.reflect.InvocationTargetException;
import java.lang.reflect.Method;
import java.nio.file.Files;
import java.nio.file.Path;
import java.util.HashMap;
import java.util.HashSet;
import java.util.Map;
import java.util.Set;
import java.util.regex.Matcher;
import java.util.regex.Pattern;

/** The examples of README.md, done line by line: each call answers what stands behind it. */
public final class ReadmeTest {
    private static final Checks CHECKS = new Checks();
    private static final Pattern MAKING = Pattern.compile("Schedulary (\\w+) = new Schedulary\\(\\);");
    private static final Pattern SIGNS = Pattern.compile("for \\(char sign : \"([^\"]*)\"\\.toCharArray\\(\\)\\) \\{");
    private static final Pattern TYPING = Pattern.compile("(\\w+)\\.type\\(sign\\);.*");
    private static final Pattern CALL = Pattern.compile("(\\w+)\\.(\\w+)\\((.*?)\\); +// ([^:]+)(:.*)?");

    private static final Map<String, Schedulary> OBJECTS = new HashMap<>();
    private static String signs = "";
    private static int calls;

    private static Object valueOf(String text) {
        if (text.startsWith("'")) {
            return text.charAt(1);
        }
        if (text.equals("true") || text.equals("false")) {
            return text.equals("true");
        }
        return Integer.parseInt(text);
    }

    private static Object[] valuesOf(String text) {
        String[] parts = text.isEmpty() ? new String[0] : text.split(", ");
        Object[] values = new Object[parts.length];
        for (int part = 0; part < parts.length; part++) {
            values[part] = valueOf(parts[part]);
        }
        return values;
    }

    private static String answerOf(Schedulary x, String name, Object[] values) {
        for (Method method : Schedulary.class.getMethods()) {
            if (method.getName().equals(name) && method.getParameterCount() == values.length) {
                try {
                    return String.valueOf(method.invoke(x, values));
                } catch (InvocationTargetException e) {
                    return e.getCause().getClass().getSimpleName();
                } catch (IllegalAccessException e) {
                    throw new AssertionError(e);
                }
            }
        }
        return "no such call";
    }

    private static void line(String line) {
        Matcher making = MAKING.matcher(line);
        Matcher text = SIGNS.matcher(line);
        Matcher typing = TYPING.matcher(line);
        Matcher call = CALL.matcher(line);
        if (making.matches()) {
            OBJECTS.put(making.group(1), new Schedulary());
        } else if (text.matches()) {
            signs = text.group(1);
        } else if (typing.matches()) {
            for (char sign : signs.toCharArray()) {
                OBJECTS.get(typing.group(1)).type(sign);
            }
        } else if (call.matches()) {
            calls++;
            String got = answerOf(OBJECTS.get(call.group(1)), call.group(2), valuesOf(call.group(3)));
            CHECKS.same(line, got, call.group(4));
        } else {
            CHECKS.holds("a line of README.md can be done: " + line, line.isEmpty() || line.equals("}"));
        }
    }

    private static void names(String page) {
        Set<String> told = new HashSet<>();
        Matcher name = Pattern.compile("`(\\w+)`").matcher(page);
        while (name.find()) {
            told.add(name.group(1));
        }
        for (Method method : Schedulary.class.getDeclaredMethods()) {
            if (java.lang.reflect.Modifier.isPublic(method.getModifiers())) {
                CHECKS.holds("README.md tells of " + method.getName(), told.contains(method.getName()));
            }
        }
    }

    public static void main(String[] args) throws IOException {
        boolean isJava = false;
        for (String line : Files.readAllLines(Path.of("README.md"))) {
            if (line.startsWith("```")) {
                isJava = line.equals("```java");
            } else if (isJava) {
                line(line.trim());
            }
        }
        CHECKS.holds("README.md has examples", calls > 30);
        names(Files.readString(Path.of("README.md")));
        CHECKS.end("ReadmeTest");
    }
}
