import java.io.IOException;
import java.lang.reflect.InvocationTargetException;
import java.lang.reflect.Method;
import java.lang.reflect.Modifier;
import java.nio.file.Files;
import java.nio.file.Path;
import java.util.ArrayList;
import java.util.List;
import java.util.TreeSet;
import java.util.regex.Matcher;
import java.util.regex.Pattern;

/** README.md: its tables are the face, row by row, and its example answers as it says. */
public final class ReadmeTest {
    private static final Pattern ROW = Pattern.compile("\\| `(\\w+)\\((.*?)\\)` \\| (.*) \\| `(\\w+)`: (.*) \\| (.*) \\|");
    private static final Pattern LINE = Pattern.compile("server\\.(\\w+)\\((.*?)\\); +// ([^:]*): .*");

    private static final Checks checks = new Checks("ReadmeTest");

    public static void main(String[] args) throws IOException, IllegalAccessException {
        List<String> lines = Files.readAllLines(Path.of("README.md"));
        face(lines);
        example(lines);
        tests(lines);
        checks.finish();
    }

    private static List<Method> methods() {
        List<Method> methods = new ArrayList<>();
        for (Method method : Compactforms.class.getDeclaredMethods()) {
            if (Modifier.isPublic(method.getModifiers())) {
                methods.add(method);
            }
        }
        return methods;
    }

    // ---- the tables

    private static void face(List<String> lines) {
        checks.part("the tables");
        TreeSet<String> due = new TreeSet<>();
        for (Method method : methods()) {
            StringBuilder told = new StringBuilder(method.getReturnType() + " " + method.getName());
            for (Class<?> type : method.getParameterTypes()) {
                told.append(' ').append(type);
            }
            for (Class<?> thrown : method.getExceptionTypes()) {
                told.append(' ').append(thrown.getSimpleName().replaceAll("OutOfBounds|Illegal|Exception", ""));
            }
            due.add(told.toString());
        }
        TreeSet<String> got = new TreeSet<>();
        TreeSet<String> writing = new TreeSet<>();
        int rows = 0;
        for (String line : lines) {
            Matcher row = ROW.matcher(line);
            if (row.matches()) {
                rows++;
                got.add(told(row));
                if (row.group(3).startsWith("*row")) {
                    writing.add(row.group(1));
                }
            }
        }
        checks.same("the face", due, got);
        checks.same("rows", due.size(), rows);
        checks.same("calls that are written", written(), writing);
    }

    /** The calls that the test of refusals finds to throw at 300 rows. */
    private static TreeSet<String> written() {
        TreeSet<String> written = new TreeSet<>();
        for (Face method : Face.all()) {
            if (method.written) {
                written.add(method.name);
            }
        }
        return written;
    }

    private static String told(Matcher row) {
        StringBuilder told = new StringBuilder(row.group(4) + " " + row.group(1));
        for (String parameter : row.group(2).split(", ")) {
            told.append(parameter.isEmpty() ? "" : " ").append(parameter.split(" ")[0]);
        }
        Matcher thrown = Pattern.compile("Index|Argument|State").matcher(row.group(6));
        while (thrown.find()) {
            told.append(' ').append(thrown.group());
        }
        return told.toString();
    }

    // ---- the example

    private static void example(List<String> lines) throws IllegalAccessException {
        checks.part("the example");
        Compactforms server = new Compactforms();
        int calls = 0;
        for (String line : lines) {
            Matcher call = LINE.matcher(line);
            if (call.matches()) {
                calls++;
                checks.same(line, call.group(3), answer(server, call.group(1), call.group(2)));
            }
        }
        checks.same("calls that were seen", true, calls >= 20);
    }

    private static String answer(Compactforms server, String name, String arguments) throws IllegalAccessException {
        List<Object> values = new ArrayList<>();
        for (String argument : arguments.isEmpty() ? new String[0] : arguments.split(", ")) {
            boolean bool = argument.equals("true") || argument.equals("false");
            values.add(bool ? (Object) Boolean.valueOf(argument) : (Object) Integer.decode(argument));
        }
        for (Method method : methods()) {
            if (method.getName().equals(name)) {
                try {
                    return String.valueOf(method.invoke(server, values.toArray()));
                } catch (InvocationTargetException e) {
                    return "throws." + e.getCause().getClass().getSimpleName();
                }
            }
        }
        return "no such call";
    }

    // ---- the tests that it names

    private static void tests(List<String> lines) {
        checks.part("the tests");
        String page = String.join("\n", lines);
        String[] files = Path.of("src/test/java").toFile().list();
        for (String file : files == null ? new String[0] : files) {
            String name = file.replaceAll("\\.java$", "");
            if (name.endsWith("Test")) {
                checks.same(name + " is named", true, page.contains("`" + name) || page.contains("/" + name));
            }
        }
    }
}
