import java.io.IOException;
import java.util.ArrayList;
import java.util.Arrays;
import java.util.LinkedHashMap;
import java.util.List;
import java.util.Map;
import java.util.TreeSet;

/** The rules of LANGUAGE.md that the compiled class shows: what it calls, makes, throws, divides by, how deep it goes. */
public final class BytecodeTest {
    private static final int MOST_DEPTH = 8;
    private static final TreeSet<String> LIBRARY = new TreeSet<>(Arrays.asList(
        "java/lang/Object.<init>:()V",
        "java/lang/System.arraycopy:(Ljava/lang/Object;ILjava/lang/Object;II)V",
        "java/lang/Integer.compare:(II)I",
        "java/util/Arrays.fill:([II)V",
        "java/lang/IndexOutOfBoundsException.<init>:(Ljava/lang/String;)V",
        "java/lang/IllegalArgumentException.<init>:(Ljava/lang/String;)V",
        "java/lang/IllegalStateException.<init>:(Ljava/lang/String;)V"));
    private static final String EXCEPTION = "java/lang/(IndexOutOfBounds|IllegalArgument|IllegalState)Exception";

    private static final Checks checks = new Checks("BytecodeTest");
    private static final List<Bytecode> classes = new ArrayList<>();
    private static final Map<String, List<Bytecode.Step>> methods = new LinkedHashMap<>();

    public static void main(String[] args) throws IOException {
        add(Compactforms.class);
        for (Class<?> inside : Compactforms.class.getDeclaredClasses()) {
            add(inside);
        }
        library();
        divisors();
        whatIsMade();
        whatIsThrown();
        notUsed();
        depth();
        checks.finish();
    }

    private static void add(Class<?> one) throws IOException {
        Bytecode code = Bytecode.of(one);
        classes.add(code);
        methods.putAll(code.methods);
    }

    private static void library() {
        checks.part("rule 4, the library");
        TreeSet<String> called = new TreeSet<>();
        for (List<Bytecode.Step> steps : methods.values()) {
            for (Bytecode.Step step : steps) {
                if (step.calls() && !step.names.startsWith("Compactforms")) {
                    called.add(step.names);
                }
            }
        }
        checks.same("what is called", LIBRARY, called);
    }

    private static void divisors() {
        checks.part("rule 7, what divides");
        int divisions = 0;
        for (Map.Entry<String, List<Bytecode.Step>> method : methods.entrySet()) {
            List<Bytecode.Step> steps = method.getValue();
            for (int i = 1; i < steps.size(); i++) {
                int opcode = steps.get(i).opcode;
                checks.same("a long one in " + method.getKey(), false, opcode == Bytecode.LDIV || opcode == Bytecode.LREM);
                if (opcode == Bytecode.IDIV || opcode == Bytecode.IREM) {
                    divisions++;
                    checks.same("a constant above 0 divides in " + method.getKey(), true, steps.get(i - 1).pushes > 0);
                }
            }
        }
        checks.same("divisions that were seen", true, divisions > 0);
    }

    private static void whatIsMade() {
        checks.part("rule 12, what is made");
        for (Map.Entry<String, List<Bytecode.Step>> method : methods.entrySet()) {
            boolean constructor = method.getKey().contains(".<init>:");
            for (Bytecode.Step step : method.getValue()) {
                boolean array = step.opcode == Bytecode.NEWARRAY || step.opcode == Bytecode.ANEWARRAY;
                checks.same("an array made by " + method.getKey(), false, array && !constructor);
                checks.same("a field of arrays in " + method.getKey(), false, step.opcode == Bytecode.MULTIANEWARRAY);
                if (step.opcode == Bytecode.NEW && !step.names.matches(EXCEPTION)) {
                    checks.same(step.names + " made by " + method.getKey(), true, constructor && step.names.startsWith("Compactforms$"));
                }
            }
        }
    }

    /** Throws stand in methods of their own (need..), none in a constructor, and nothing is caught. */
    private static void whatIsThrown() {
        checks.part("rule 6, what is thrown");
        for (Map.Entry<String, List<Bytecode.Step>> method : methods.entrySet()) {
            List<Bytecode.Step> steps = method.getValue();
            for (int i = 1; i < steps.size(); i++) {
                if (steps.get(i).opcode == Bytecode.ATHROW) {
                    checks.same("throw in " + method.getKey() + " of a new one", true,
                        steps.get(i - 1).names.matches(EXCEPTION + "\\.<init>:.*"));
                    checks.same("throw in " + method.getKey(), false, method.getKey().contains("<init>"));
                }
            }
        }
        for (Bytecode one : classes) {
            checks.same("catches in " + one.name, 0, one.catches);
        }
    }

    private static void notUsed() {
        checks.part("rules 2 to 6, what is not used");
        for (Map.Entry<String, List<Bytecode.Step>> method : methods.entrySet()) {
            checks.same("a static initialiser", false, method.getKey().contains("<clinit>"));
            for (Bytecode.Step step : method.getValue()) {
                checks.same("a lambda or a joined text in " + method.getKey(), false, step.opcode == Bytecode.INVOKEDYNAMIC);
                checks.same("a cast in " + method.getKey(), false, step.opcode == Bytecode.CHECKCAST);
                checks.same("a lock in " + method.getKey(), false,
                    step.opcode == Bytecode.MONITORENTER || step.opcode == Bytecode.MONITOREXIT);
            }
        }
    }

    // ---- how deep calls go

    private static void depth() {
        checks.part("rules 8 and 11, depth");
        int deepest = 0;
        for (String method : methods.keySet()) {
            deepest = Math.max(deepest, depthOf(method, new ArrayList<>()));
        }
        System.out.println("BytecodeTest: calls go " + deepest + " deep");
        checks.same("calls at most " + MOST_DEPTH + " deep (0: not seen): " + deepest, true, deepest > 1 && deepest <= MOST_DEPTH);
    }

    private static int depthOf(String method, List<String> open) {
        checks.same("recursion of " + method, false, open.contains(method));
        if (open.contains(method)) {
            return 0;
        }
        open.add(method);
        int deepest = 0;
        for (Bytecode.Step step : methods.get(method)) {
            for (String called : step.calls() ? bodies(step.names) : new ArrayList<String>()) {
                deepest = Math.max(deepest, depthOf(called, open));
            }
        }
        open.remove(method);
        return deepest + 1;
    }

    /** The methods that a call may get to: those of the class that it names, and of all below it. */
    private static List<String> bodies(String called) {
        int dot = called.lastIndexOf('.', called.indexOf(':'));
        String owner = called.substring(0, dot);
        List<String> bodies = new ArrayList<>();
        for (Bytecode one : classes) {
            String body = one.name + called.substring(dot);
            boolean below = one.above.equals(owner) && !body.contains(".<init>:");
            if ((one.name.equals(owner) || below) && methods.containsKey(body)) {
                bodies.add(body);
            }
        }
        return bodies;
    }
}
