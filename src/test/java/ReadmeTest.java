import java.io.IOException;
import java.lang.reflect.InvocationTargetException;
import java.lang.reflect.Method;
import java.lang.reflect.Modifier;
import java.nio.file.Files;
import java.nio.file.Path;
import java.util.ArrayList;
import java.util.List;
import java.util.regex.Matcher;
import java.util.regex.Pattern;

/** The README's example answers as it says, and its table names each call. */
public final class ReadmeTest {
    private static final Check CHECK = new Check("ReadmeTest");
    private static final Pattern LINE = Pattern.compile("x\\.(\\w+)\\((.*)\\); *// (-?\\d+|true|false): .*");

    private ReadmeTest() {
    }

    public static void main(String[] args)
            throws IOException, IllegalAccessException, InvocationTargetException {
        List<String> readme = Files.readAllLines(Path.of("README.md"));
        SmokedSecrets x = new SmokedSecrets();
        for (String line : exampleIn(readme)) {
            Matcher parts = LINE.matcher(line);
            if (parts.matches()) {
                CHECK.due(line, parts.group(3), called(x, parts.group(1), parts.group(2)));
            } else {
                CHECK.due(line, "SmokedSecrets x = new SmokedSecrets();", line);
            }
        }
        for (Method method : SmokedSecrets.class.getDeclaredMethods()) {
            if (Modifier.isPublic(method.getModifiers())) {
                CHECK.due("the table names " + method.getName(), true, names(readme, method.getName()));
            }
        }
        CHECK.end();
    }

    private static List<String> exampleIn(List<String> readme) {
        int first = readme.indexOf("```java") + 1;
        int end = first + readme.subList(first, readme.size()).indexOf("```");
        return readme.subList(first, end);
    }

    private static boolean names(List<String> readme, String call) {
        for (String line : readme) {
            if (line.startsWith("| ") && line.contains("`" + call + "`")) {
                return true;
            }
        }
        return false;
    }

    private static String called(SmokedSecrets x, String call, String arguments)
            throws IllegalAccessException, InvocationTargetException {
        List<Object> numbers = new ArrayList<>();
        for (String one : arguments.split(", ")) {
            if (!one.isEmpty()) {
                numbers.add(Integer.decode(one));
            }
        }
        for (Method method : SmokedSecrets.class.getDeclaredMethods()) {
            if (method.getName().equals(call) && Modifier.isPublic(method.getModifiers())) {
                return String.valueOf(method.invoke(x, numbers.toArray()));
            }
        }
        return "no such call";
    }
}
