import java.io.IOException;
import java.lang.reflect.Method;
import java.lang.reflect.Modifier;
import java.nio.file.Files;
import java.nio.file.Path;
import java.util.List;
import java.util.regex.Matcher;
import java.util.regex.Pattern;

/** The examples of README.md: each call behind which an answer stands, in its order. */
public final class ReadmeTest {
    private static final Pattern OBJECT = Pattern.compile("PopovRows x = new PopovRows\\(\\);");
    private static final Pattern TEXT = Pattern.compile("for \\(char c : \"(.*)\"\\.toCharArray\\(\\)\\) \\{");
    private static final Pattern TYPED = Pattern.compile("x\\.type\\(c\\); +// 1 to (\\d+)(:.*)?");
    private static final Pattern CALL = Pattern.compile("x\\.(\\w+)\\((.*)\\); +// (-?\\d+)(:.*)?");
    private static final int EXAMPLES = 4;

    private static PopovRows x;
    private static String text = "";
    private static int objects = 0;

    private static Method method(String name) {
        for (Method method : PopovRows.class.getDeclaredMethods()) {
            if (Modifier.isPublic(method.getModifiers()) && method.getName().equals(name)) {
                return method;
            }
        }
        throw new IllegalArgumentException("no method " + name);
    }

    private static Object[] arguments(String list) {
        String[] parts = list.isEmpty() ? new String[0] : list.split(", ");
        Object[] made = new Object[parts.length];
        for (int at = 0; at < parts.length; at++) {
            made[at] = parts[at].equals("PopovRows.NONE") ? PopovRows.NONE : Integer.parseInt(parts[at]);
        }
        return made;
    }

    private static void types(int wantedLength) {
        for (int at = 0; at < text.length(); at++) {
            Check.due("type in '" + text + "'", x.type(text.charAt(at)), at + 1);
        }
        Check.due("length of '" + text + "'", text.length(), wantedLength);
    }

    private static void run(String line) throws ReflectiveOperationException {
        Matcher typed = TYPED.matcher(line);
        Matcher begun = TEXT.matcher(line);
        Matcher call = CALL.matcher(line);
        if (OBJECT.matcher(line).matches()) {
            x = new PopovRows();
            objects++;
        } else if (begun.matches()) {
            text = begun.group(1);
        } else if (typed.matches()) {
            types(Integer.parseInt(typed.group(1)));
        } else if (call.matches()) {
            Number got = (Number) method(call.group(1)).invoke(x, arguments(call.group(2)));
            Check.due(line, got.longValue(), Long.parseLong(call.group(3)));
        } else if (!line.equals("}")) {
            Check.fail("not understood: " + line);
        }
    }

    private static void runExamples(List<String> page) throws ReflectiveOperationException {
        boolean inside = false;
        for (String whole : page) {
            String line = whole.strip();
            if (line.startsWith("```")) {
                inside = line.equals("```java");
            } else if (inside) {
                run(line);
            }
        }
        Check.due("examples", objects, EXAMPLES);
    }

    private static void lookForEachMethod(String page) {
        for (Method method : PopovRows.class.getDeclaredMethods()) {
            if (Modifier.isPublic(method.getModifiers()) && !page.contains("`" + method.getName() + "(")) {
                Check.fail("README.md does not tell of " + method.getName());
            }
        }
    }

    public static void main(String[] args) throws IOException, ReflectiveOperationException {
        Check.begin("README.md");
        List<String> page = Files.readAllLines(Path.of("README.md"));
        runExamples(page);
        lookForEachMethod(String.join("\n", page));
        Check.finish("ReadmeTest");
    }
}
