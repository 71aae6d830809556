import java.io.IOException;
import java.lang.reflect.Constructor;
import java.lang.reflect.Field;
import java.lang.reflect.Method;
import java.lang.reflect.Modifier;
import java.nio.file.Files;
import java.nio.file.Path;
import java.util.List;
import java.util.Set;
import java.util.TreeSet;

/** The face of the class, and rules of the language that can be seen in the program's text. */
public final class RulesTest {
    private static final String[] FACE = {
        "int prime(int)", "int columns(int)", "int row()", "int sets(int,int,int,int)", "int drops(int)",
        "int steps(int,int,int,int)", "int monic(int)", "int of(int,int,int)", "int about(int,int)", "int next(int)",
        "int rank(int)", "int form(int,int,int,int)", "int least(int)", "int same(int,int)", "int rest(int,int,int,int)",
        "int made(int,int)", "int factor(int,int,int,int)", "int det(int,int)", "int quotient(int,int,int,int,int)",
        "int type(int)", "int clear()", "int reads()", "int why(int)", "int back()", "int told(int)", "long digest()"};
    private static final String[] CONSTANTS = {"NONE", "BAD", "NO", "FULL"};
    private static final String[] BARRED = {"import", "package", "throw", "throws", "try", "catch", "finally",
        "synchronized", "assert", "protected", "var", "Object", "Random", "Thread", "System.out", "->", "::", "Exact("};
    private static final int MOST_LINES = 60;
    private static final int MOST_CLASSES = 12;
    private static final int MOST_FIELDS = 20;
    private static final int MOST_PARAMETERS = 7;

    private static void holds(boolean good, String what) {
        if (!good) {
            Check.fail(what);
        }
    }

    private static String signature(Method method) {
        StringBuilder text = new StringBuilder();
        for (Class<?> type : method.getParameterTypes()) {
            text.append(text.length() == 0 ? "" : ",").append(type.getName());
        }
        return method.getReturnType().getName() + " " + method.getName() + "(" + text + ")";
    }

    private static void checkFace() {
        Class<?> face = PopovRows.class;
        holds(Modifier.isFinal(face.getModifiers()), "the class is not final");
        Set<String> found = new TreeSet<>();
        Set<String> publicNames = new TreeSet<>();
        for (Method method : face.getDeclaredMethods()) {
            if (!Modifier.isPrivate(method.getModifiers())) {
                found.add(signature(method));
                publicNames.add(method.getName());
                holds(Modifier.isPublic(method.getModifiers()), "not public: " + method);
                holds(!Modifier.isStatic(method.getModifiers()), "static: " + method);
            }
        }
        holds(found.equals(new TreeSet<>(List.of(FACE))), "the methods are " + found);
        Set<String> fields = new TreeSet<>();
        for (Field field : face.getDeclaredFields()) {
            if (!Modifier.isPrivate(field.getModifiers())) {
                fields.add(field.getName());
            }
        }
        holds(fields.equals(new TreeSet<>(List.of(CONSTANTS))), "the constants are " + fields);
        for (Constructor<?> made : face.getDeclaredConstructors()) {
            holds(made.getParameterCount() == 0 && Modifier.isPublic(made.getModifiers()), "constructor: " + made);
        }
        checkClass(face, publicNames);
        Class<?>[] inside = face.getDeclaredClasses();
        holds(inside.length + 1 <= MOST_CLASSES, "too many classes");
        for (Class<?> one : inside) {
            holds(Modifier.isStatic(one.getModifiers()), "not static: " + one);
            checkClass(one, publicNames);
        }
    }

    private static void checkClass(Class<?> one, Set<String> publicNames) {
        int fields = 0;
        for (Field field : one.getDeclaredFields()) {
            boolean fixed = Modifier.isStatic(field.getModifiers());
            fields += fixed ? 0 : 1;
            holds(!fixed || Modifier.isFinal(field.getModifiers()), "static and not final: " + field);
        }
        holds(fields <= MOST_FIELDS, "too many fields: " + one);
        for (Method method : one.getDeclaredMethods()) {
            boolean ofFace = one == PopovRows.class && Modifier.isPublic(method.getModifiers());
            holds(ofFace || !publicNames.contains(method.getName()), "bears a public name: " + method);
            holds(method.getParameterCount() <= MOST_PARAMETERS, "too many parameters: " + method);
        }
    }

    private static boolean hasWord(String line, String word) {
        boolean plain = Character.isLetter(word.charAt(word.length() - 1));
        for (int at = line.indexOf(word); at >= 0; at = line.indexOf(word, at + 1)) {
            boolean begins = at == 0 || !plain || !Character.isJavaIdentifierPart(line.charAt(at - 1));
            int end = at + word.length();
            boolean ends = end == line.length() || !plain || !Character.isJavaIdentifierPart(line.charAt(end));
            if (begins && ends) {
                return true;
            }
        }
        return false;
    }

    private static void checkText() throws IOException {
        int depth = 0;
        int begun = 0;
        int number = 0;
        boolean inComment = false;
        for (String whole : Files.readAllLines(Path.of("src/main/java/PopovRows.java"))) {
            number++;
            String line = whole.strip();
            inComment = inComment || line.startsWith("/*");
            if (!inComment && !line.startsWith("//")) {
                for (String word : BARRED) {
                    holds(!hasWord(line, word), "line " + number + " has " + word);
                }
                boolean isMethod = line.endsWith("{") && line.contains("(") && !line.contains(" new ");
                boolean atMember = whole.startsWith("    ") && depth <= 2;
                if (isMethod && atMember && !line.startsWith("if") && !line.startsWith("for")) {
                    begun = number;
                    holds(depth >= 1, "line " + number + " stands outside");
                }
                for (int at = 0; at < line.length(); at++) {
                    depth += line.charAt(at) == '{' ? 1 : line.charAt(at) == '}' ? -1 : 0;
                }
                if (line.equals("}") && depth <= 2 && begun > 0) {
                    holds(number - begun < MOST_LINES, "the method at line " + begun + " is too long");
                    begun = 0;
                }
            }
            inComment = inComment && !line.endsWith("*/");
        }
        holds(depth == 0, "braces are left open");
    }

    public static void main(String[] args) throws IOException {
        Check.begin("rules");
        checkFace();
        checkText();
        Check.finish("RulesTest");
    }
}
