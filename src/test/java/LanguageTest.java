import java.lang.management.ManagementFactory;
import java.lang.reflect.Array;
import java.lang.reflect.Constructor;
import java.lang.reflect.Field;
import java.lang.reflect.Method;
import java.lang.reflect.Modifier;
import java.nio.file.Files;
import java.nio.file.Path;
import java.util.ArrayDeque;
import java.util.Arrays;
import java.util.IdentityHashMap;
import java.util.Map;
import java.util.TreeSet;
import java.util.regex.Matcher;
import java.util.regex.Pattern;

/** The rules of LANGUAGE.md that a program can look at: the face, what the text may say, how much is made. */
public final class LanguageTest {
    private static final String INDEX = "IndexOutOfBoundsException ";
    private static final String ARGUMENT = "IllegalArgumentException ";
    private static final String STATE = "IllegalStateException ";
    private static final String[] METHODS = {
        "int push(int, int, boolean) " + INDEX + ARGUMENT + STATE,
        "int pop(int, boolean) " + INDEX + STATE,
        "boolean add(int, int) " + INDEX + ARGUMENT + STATE,
        "boolean take(int, int) " + INDEX + ARGUMENT + STATE,
        "int rate(int, int, int) " + INDEX + ARGUMENT + STATE,
        "int append(int, int) " + INDEX + ARGUMENT + STATE,
        "int read(int, int, int) " + INDEX + STATE,
        "boolean done(int, int, int) " + INDEX + STATE,
        "int claim(int, int, int, int) " + INDEX + ARGUMENT + STATE,
        "int waiting(int, int, int) " + INDEX,
        "boolean remove(int) " + INDEX + STATE,
        "boolean expire(int, int) " + INDEX + ARGUMENT + STATE,
        "int left(int) " + INDEX,
        "int tick(int) " + ARGUMENT + STATE,
        "int sample(int) " + ARGUMENT,
        "int held() ",
        "int rewrite() ",
        "int writeOn(int) " + ARGUMENT + STATE,
        "int restart() ",
        "int rows() ",
        "int typeOf(int) " + INDEX,
        "int formOf(int) " + INDEX,
        "int size(int) " + INDEX,
        "int at(int, int) " + INDEX,
        "int atByPlain(int, int) " + INDEX,
        "int indexOf(int, int) " + INDEX + ARGUMENT,
        "float points(int, int) " + INDEX + ARGUMENT + STATE,
        "int next(int, int) " + INDEX + ARGUMENT + STATE,
        "int scanned(int, int, int) " + INDEX + ARGUMENT + STATE,
    };
    private static final String[] BANNED = {
        "->", "::", "@", "\\bsynchronized\\b", "\\bassert\\b", "\\bfinally\\b", "\\btry\\b", "\\bcatch\\b",
        "\\binstanceof\\b", "Exact\\b", "\\bstatic \\{", "\\bObject\\b", "\\bFloat\\b", "\\bDouble\\b", "\\bMath\\b",
        "\\bSystem\\.(?!arraycopy)", "\\bpackage\\b", "\\brecord\\b", "\\bvar\\b", "\\.\\*", "\\btoString\\b",
        "\\bhashCode\\b", "\\bequals\\b", "\\bgetClass\\b", "while \\(true\\)", "for \\(;;\\)", "\" \\+", "\\+ \"",
    };
    private static final int MOST_CELLS = 14000;
    private static final int MOST_OBJECTS = 1000;

    private static final Checks checks = new Checks("LanguageTest");

    public static void main(String[] args) throws Exception {
        face();
        names();
        text(Files.readString(Path.of(args[0])));
        roomOfOneObject();
        roomOfCalls();
        checks.finish();
    }

    private static void face() {
        checks.part("rule 1, the face");
        checks.same("public and final", Modifier.PUBLIC | Modifier.FINAL, Compactforms.class.getModifiers());
        TreeSet<String> open = new TreeSet<>();
        for (Method method : Compactforms.class.getDeclaredMethods()) {
            if (!Modifier.isPrivate(method.getModifiers())) {
                open.add(told(method));
            }
        }
        checks.same("methods", new TreeSet<>(Arrays.asList(METHODS)), open);
        TreeSet<String> constants = new TreeSet<>();
        for (Field field : Compactforms.class.getDeclaredFields()) {
            if (!Modifier.isPrivate(field.getModifiers())) {
                constants.add(Modifier.toString(field.getModifiers()) + " " + field.getType() + " " + field.getName());
            }
        }
        TreeSet<String> due = new TreeSet<>();
        for (String name : "NONE ABSENT LIST SET SORTED STREAM SMALL BIG".split(" ")) {
            due.add("public static final int " + name);
        }
        checks.same("constants", due, constants);
        Constructor<?>[] constructors = Compactforms.class.getDeclaredConstructors();
        checks.same("constructors", "[public Compactforms()]", Arrays.toString(constructors));
        for (Class<?> inside : Compactforms.class.getDeclaredClasses()) {
            int modifiers = inside.getModifiers();
            checks.same(inside.getName() + " static", true, Modifier.isStatic(modifiers));
            checks.same(inside.getName() + " not open", false, Modifier.isPublic(modifiers) || Modifier.isProtected(modifiers));
        }
    }

    private static String told(Method method) {
        StringBuilder told = new StringBuilder();
        told.append(method.getReturnType()).append(' ').append(method.getName()).append('(');
        for (int i = 0; i < method.getParameterCount(); i++) {
            told.append(i == 0 ? "" : ", ").append(method.getParameterTypes()[i]);
        }
        told.append(") ");
        for (Class<?> thrown : method.getExceptionTypes()) {
            told.append(thrown.getSimpleName()).append(' ');
        }
        return told.toString();
    }

    private static void names() {
        checks.part("rule 1, names; rule 5, static fields; rule 11, sizes");
        TreeSet<String> open = new TreeSet<>();
        for (String method : METHODS) {
            open.add(method.substring(method.indexOf(' ') + 1, method.indexOf('(')));
        }
        checks.same("classes", true, Compactforms.class.getDeclaredClasses().length < 12);
        for (Class<?> one : all()) {
            int fields = 0;
            for (Field field : one.getDeclaredFields()) {
                boolean isStatic = Modifier.isStatic(field.getModifiers());
                checks.same(field + " final if static", true, !isStatic || Modifier.isFinal(field.getModifiers()));
                fields += isStatic ? 0 : 1;
            }
            checks.same("fields of " + one.getName(), true, fields <= 20);
            for (Method method : one.getDeclaredMethods()) {
                boolean ofFace = one == Compactforms.class && Modifier.isPublic(method.getModifiers());
                checks.same(method + " has its own name", true, ofFace || !open.contains(method.getName()));
                checks.same(method + " has few parameters", true, method.getParameterCount() <= 7);
            }
        }
    }

    private static Class<?>[] all() {
        Class<?>[] inside = Compactforms.class.getDeclaredClasses();
        Class<?>[] all = Arrays.copyOf(inside, inside.length + 1);
        all[inside.length] = Compactforms.class;
        return all;
    }

    private static void text(String source) {
        checks.part("rules 2 to 10, the text");
        String code = source.replaceAll("(?s)/\\*.*?\\*/", "").replaceAll("//[^\n]*", "").replaceAll("\"[^\"\n]*\"", "\"\"");
        for (String banned : BANNED) {
            checks.same("uses of " + banned, false, Pattern.compile(banned).matcher(code).find());
        }
        checks.same("signs above 127", -1, source.replaceAll("[\\x00-\\x7f]", "").length() - 1);
        Matcher imports = Pattern.compile("import ([^;]*);").matcher(code);
        while (imports.find()) {
            checks.same("import", "java.util.Arrays", imports.group(1));
        }
        Matcher thrown = Pattern.compile("throw (.{9}[A-Za-z]*)").matcher(code);
        while (thrown.find()) {
            checks.same("throw", true, thrown.group(1).matches("new (IndexOutOfBounds|IllegalArgument|IllegalState)Exception"));
        }
        checks.part("rule 11, the length of methods");
        int start = 0;
        String[] lines = source.split("\n");
        for (int line = 0; line < lines.length; line++) {
            if (lines[line].matches(" {4}(?: {4})?[^ /*}].*\\{")) {
                start = line;
            }
            if (lines[line].matches(" {4}(?: {4})?\\}") && lines[start].contains("(")) {
                checks.same("lines from " + lines[start].trim() + " on: few", true, line - start < 60);
            }
        }
    }

    /** Counted as the rule of the one room does: objects and arrays, and their fields and elements. */
    private static int[] room(Object root) throws Exception {
        Map<Object, Boolean> seen = new IdentityHashMap<>();
        ArrayDeque<Object> open = new ArrayDeque<>();
        open.add(root);
        seen.put(root, true);
        int cells = 0;
        while (!open.isEmpty()) {
            Object one = open.poll();
            if (one.getClass().isArray()) {
                cells += Array.getLength(one);
                for (int i = 0; i < Array.getLength(one) && !one.getClass().getComponentType().isPrimitive(); i++) {
                    note(Array.get(one, i), seen, open);
                }
                continue;
            }
            for (Field field : one.getClass().getDeclaredFields()) {
                if (!Modifier.isStatic(field.getModifiers())) {
                    cells++;
                    field.setAccessible(true);
                    if (!field.getType().isPrimitive()) {
                        note(field.get(one), seen, open);
                    }
                }
            }
        }
        return new int[] {seen.size(), cells};
    }

    private static void note(Object one, Map<Object, Boolean> seen, ArrayDeque<Object> open) {
        if (one != null && seen.put(one, true) == null) {
            open.add(one);
        }
    }

    private static void roomOfOneObject() throws Exception {
        checks.part("the room of one object");
        int[] room = room(new Compactforms());
        System.out.println("LanguageTest: a new object has " + room[0] + " objects and " + room[1] + " fields and elements");
        checks.same("512 objects fit", true, room[0] <= MOST_OBJECTS && room[1] <= MOST_CELLS);
    }

    private static void roomOfCalls() {
        checks.part("the room of calls");
        com.sun.management.ThreadMXBean threads = (com.sun.management.ThreadMXBean) ManagementFactory.getThreadMXBean();
        Compactforms x = new Compactforms();
        busyCalls(new Compactforms());
        long before = threads.getCurrentThreadAllocatedBytes();
        busyCalls(x);
        long made = threads.getCurrentThreadAllocatedBytes() - before;
        checks.same("calls that make nothing (bytes: " + made + ")", true, made < 2000);
    }

    private static void busyCalls(Compactforms x) {
        for (int i = 0; i < 40; i++) {
            x.push(0, i, true);
            x.add(1, i);
            x.rate(2, i, i);
            x.append(3, i);
            x.read(3, 0, 0);
            x.points(2, i);
        }
        for (int i = 0; i < 50; i++) {
            x.rewrite();
            x.writeOn(16);
            x.restart();
            x.scanned(1, i, 0);
            x.indexOf(1, i);
        }
    }
}
