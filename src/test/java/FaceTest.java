import java.lang.management.ManagementFactory;
import java.lang.reflect.Field;
import java.lang.reflect.Method;
import java.lang.reflect.Modifier;
import java.nio.file.Files;
import java.nio.file.Path;
import java.util.Arrays;
import java.util.List;
import java.util.TreeSet;

/** The public face, the rules of the language that can be seen from outside, and the room that calls take. */
public final class FaceTest {
    private static final List<String> METHODS = List.of(
        "int joint(int, int, boolean)", "int bar(int, int)", "int load(int, int, int)", "int about(int, int)",
        "int ofBar(int, int)", "int size(int)", "int price(int)", "int drop()", "int cross(int, int)",
        "int stiff(int)", "int choices()", "int frame(int)", "long cost(int, int)", "long pull(int, int, int)",
        "int used(int, int)", "int sized(int)", "int prove()", "long field(int, int, int)", "long slack(int, int)",
        "int told(int)");
    private static final List<String> CONSTANTS = List.of(
        "int NONE = -6", "int UNKNOWN = -1", "int OUTSIDE = -2", "int STATE = -3", "int FULL = -4", "int NO = -5",
        "long LOST = -1000000000000000");
    private static final List<String> RULED_OUT = List.of(
        "catch", "finally", "synchronized", "assert", "->", "::", "Exact", "double", "float", "package ", "static {",
        "Random", "System.out", "System.nano", "System.current", "Thread", "protected");
    private static final int LONGEST_METHOD = 60;
    private static int wrong = 0;

    private static void due(String what, Object got, Object want) {
        if (!got.equals(want)) {
            wrong++;
            System.out.println(what + ": is " + got + ", due is " + want);
        }
    }

    public static void main(String[] args) throws Exception {
        checkMembers();
        checkNested();
        checkSource(args.length > 0 ? args[0] : "src/main/java/LightFrame.java");
        checkRoom();
        System.out.println(wrong + " faults of the face");
        if (wrong != 0) {
            System.exit(1);
        }
    }

    private static void checkMembers() throws IllegalAccessException {
        TreeSet<String> methods = new TreeSet<>();
        for (Method method : LightFrame.class.getDeclaredMethods()) {
            if (Modifier.isPrivate(method.getModifiers())) {
                due("a private method by a public name: " + method.getName(), isPublicName(method.getName()), false);
            } else {
                due("modifiers of " + method.getName(), Modifier.toString(method.getModifiers()), "public");
                methods.add(signature(method));
            }
        }
        due("methods", methods, new TreeSet<>(METHODS));
        TreeSet<String> constants = new TreeSet<>();
        for (Field field : LightFrame.class.getDeclaredFields()) {
            if (!Modifier.isPrivate(field.getModifiers())) {
                due("modifiers of " + field.getName(), Modifier.toString(field.getModifiers()), "public static final");
                constants.add(field.getType() + " " + field.getName() + " = " + field.get(null));
            }
        }
        due("constants", constants, new TreeSet<>(CONSTANTS));
        due("the class", Modifier.toString(LightFrame.class.getModifiers()), "public final");
        due("constructors", LightFrame.class.getDeclaredConstructors().length, 1);
        due("public constructors", LightFrame.class.getConstructors().length, 1);
        due("package", LightFrame.class.getPackageName(), "");
    }

    private static String signature(Method method) {
        String types = Arrays.toString(method.getParameterTypes());
        return method.getReturnType() + " " + method.getName() + "(" + types.substring(1, types.length() - 1) + ")";
    }

    private static boolean isPublicName(String name) {
        for (String method : METHODS) {
            if (method.contains(" " + name + "(")) {
                return true;
            }
        }
        return false;
    }

    private static void checkNested() {
        for (Class<?> nested : LightFrame.class.getDeclaredClasses()) {
            int modifiers = nested.getModifiers();
            due(nested + " is static", Modifier.isStatic(modifiers), true);
            due(nested + " is hidden", Modifier.isPublic(modifiers) || Modifier.isProtected(modifiers), false);
            due(nested + " has few fields", nested.getDeclaredFields().length <= 20, true);
            for (Method method : nested.getDeclaredMethods()) {
                due("a method by a public name: " + method, isPublicName(method.getName()), false);
                due("few parameters: " + method, method.getParameterCount() <= 7, true);
            }
            for (Field field : nested.getDeclaredFields()) {
                boolean loose = Modifier.isStatic(field.getModifiers()) && !Modifier.isFinal(field.getModifiers());
                due("static state: " + field, loose, false);
            }
        }
    }

    private static void checkSource(String path) throws Exception {
        String source = Files.readString(Path.of(path));
        for (String word : RULED_OUT) {
            due("the source has " + word, source.contains(word), false);
        }
        int start = 0;
        List<String> lines = source.lines().toList();
        for (int i = 0; i < lines.size(); i++) {
            String line = lines.get(i);
            due("plain signs in line " + (i + 1), line.chars().allMatch(c -> c >= 32 && c < 127), true);
            boolean import1 = line.startsWith("import ");
            due("import in line " + (i + 1), import1 && !line.equals("import java.util.Arrays;"), false);
            if (line.endsWith(") {") && line.indexOf("for (") < 0 && line.indexOf("if (") < 0) {
                start = i;
            }
            if (line.equals("    }") || line.equals("        }")) {
                due("a long method ends in line " + (i + 1), i - start > LONGEST_METHOD, false);
                start = i;
            }
        }
    }

    /** All calls of all objects of a run share one room: so a call makes nothing, but for what the machine needs. */
    private static void checkRoom() {
        var threads = (com.sun.management.ThreadMXBean) ManagementFactory.getThreadMXBean();
        fill(new LightFrame());
        LightFrame frame = new LightFrame();
        long before = threads.getCurrentThreadAllocatedBytes();
        fill(frame);
        long taken = threads.getCurrentThreadAllocatedBytes() - before;
        due("bytes taken by calls (" + taken + ") are few", taken < 4096, true);
    }

    private static void fill(LightFrame frame) {
        for (int i = 0; i < 6; i++) {
            frame.joint(i, i * i % 7, i >= 3);
        }
        for (int i = 0; i < 15; i++) {
            frame.bar(i % 3, (i / 3 + 1 + i % 3) % 6);
        }
        for (int i = 0; i < 100; i++) {
            frame.load(i % 3, i % 20, -i % 7);
            frame.cost(i % 4, 0);
            frame.prove();
            frame.slack(i % 10, 0);
        }
    }
}
