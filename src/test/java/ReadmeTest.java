import java.lang.reflect.Field;
import java.lang.reflect.Method;
import java.lang.reflect.Modifier;
import java.nio.file.Files;
import java.nio.file.Path;
import java.util.ArrayList;
import java.util.List;
import java.util.TreeSet;
import java.util.regex.Matcher;
import java.util.regex.Pattern;

/** README.md: its calls answer what it says, its words are the document's, and it names every test. */
public final class ReadmeTest {
    private static final String NEW_OBJECT = "LightFrame f = new LightFrame();";
    private static final Pattern CALL = Pattern.compile("f\\.(\\w+)\\(([^)]*)\\);\\s+// (-?\\d+)\\b.*");
    private static final Pattern PROMISE = Pattern.compile("(?m)^## Promise (\\d+): .*\\n\\n(`[^`]+`): (.*)$");
    private static final int PROMISES = 21;
    private static final int MOST_CALLS = 512;

    private ReadmeTest() {
    }

    public static void main(String[] args) throws Exception {
        String readme = Files.readString(Path.of("README.md"));
        checkCalls(readme);
        checkPromises(readme, Files.readString(Path.of("../shared/DOC.md")));
        checkConstants(readme);
        checkTests(readme);
        Due.end();
    }

    private static void checkCalls(String readme) throws Exception {
        Due.sentence("README.md: each call answers what stands behind it");
        TreeSet<String> asked = new TreeSet<>();
        LightFrame f = null;
        int calls = 0;
        for (String line : javaLines(readme)) {
            if (line.equals(NEW_OBJECT)) {
                f = new LightFrame();
                calls = 0;
                continue;
            }
            Matcher call = CALL.matcher(line);
            boolean plain = call.matches();
            holds("is a call with its answer: " + line, plain && f != null);
            if (plain && f != null) {
                Due.due(line, answer(f, call.group(1), call.group(2)), Long.parseLong(call.group(3)));
                asked.add(call.group(1));
                calls++;
                holds("an object is used for 512 calls at most", calls <= MOST_CALLS);
            }
        }
        Due.sentence("README.md shows every call of the face");
        for (Method method : LightFrame.class.getDeclaredMethods()) {
            if (Modifier.isPublic(method.getModifiers())) {
                holds(method.getName(), asked.contains(method.getName()));
            }
        }
    }

    /** The lines of all blocks of Java, without empty ones. */
    private static List<String> javaLines(String readme) {
        List<String> found = new ArrayList<>();
        boolean inside = false;
        for (String line : readme.lines().toList()) {
            if (line.startsWith("```")) {
                inside = line.equals("```java");
            } else if (inside && !line.isBlank()) {
                found.add(line);
            }
        }
        return found;
    }

    private static long answer(LightFrame f, String name, String words) throws Exception {
        String[] given = words.isEmpty() ? new String[0] : words.split(", ");
        for (Method method : LightFrame.class.getDeclaredMethods()) {
            boolean fits = method.getName().equals(name) && method.getParameterCount() == given.length;
            if (fits && Modifier.isPublic(method.getModifiers())) {
                return ((Number) method.invoke(f, values(method, given))).longValue();
            }
        }
        throw new IllegalStateException("README.md: there is no call " + name + "(" + words + ")");
    }

    private static Object[] values(Method method, String[] given) {
        Object[] values = new Object[given.length];
        for (int i = 0; i < given.length; i++) {
            if (method.getParameterTypes()[i] == boolean.class) {
                values[i] = Boolean.valueOf(given[i]);
            } else {
                values[i] = Integer.valueOf(given[i]);
            }
        }
        return values;
    }

    private static void checkPromises(String readme, String document) {
        Due.sentence("README.md has each call with its answers as the document has them");
        List<String> lines = readme.lines().toList();
        Matcher promise = PROMISE.matcher(document);
        int found = 0;
        while (promise.find()) {
            String row = "| " + promise.group(1) + " | " + promise.group(2) + " | " + promise.group(3) + " |";
            holds(row, lines.contains(row));
            found++;
        }
        Due.due("promises of the document", found, PROMISES);
    }

    private static void checkConstants(String readme) throws IllegalAccessException {
        Due.sentence("README.md has each constant with its number");
        for (Field field : LightFrame.class.getDeclaredFields()) {
            if (Modifier.isPublic(field.getModifiers())) {
                String row = "| `" + field.getName() + "` | " + field.get(null) + " | ";
                holds(row, readme.contains("\n" + row));
            }
        }
    }

    private static void checkTests(String readme) throws Exception {
        Due.sentence("README.md says how to run its tests, and names each");
        holds("bash .ci/run", readme.contains("\nbash .ci/run\n"));
        try (var files = Files.list(Path.of("src/test/java"))) {
            for (Path file : files.toList()) {
                String name = file.getFileName().toString().replace(".java", "");
                holds(name, readme.contains("`" + name + "`"));
            }
        }
    }

    private static void holds(String what, boolean is) {
        Due.due(what, is ? 1 : 0, 1);
    }
}
