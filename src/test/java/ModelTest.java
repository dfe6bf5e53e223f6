import java.util.ArrayList;
import java.util.List;
import java.util.Random;

/** Runs of 512 calls, drawn from seeds, that the class and the model must answer alike. */
public final class ModelTest {
    private static final int CALLS = 512;
    private static final int RUNS = 6000;
    private static final int[] POINTS = {
        0, 0x80000000, 1, 0x80000001, 0x007fffff, 0x00800000, 0x3f800000, 0xbf800000, 0x7f7fffff,
        0xff7fffff, 0x7f800000, 0xff800000, 0x7f800001, 0xff800001, 0x7fffffff, -1, 0x40490fdb,
    };

    private final Random random;
    private final Compactforms server = new Compactforms();
    private final Model model = new Model();
    private final int keys;
    private final int firstKey;
    private final int range;
    private final int ticks;
    private final int rarely;
    private final int growth;
    private final int favourite;
    private final int changes;

    /** Each run has its own habits, so that some fill a few values and others spread over all keys. */
    private ModelTest(long seed) {
        random = new Random(seed);
        keys = new int[] {1, 2, 3, 5, 16}[random.nextInt(5)];
        firstKey = random.nextInt(17 - keys);
        range = new int[] {5, 12, 45, 300, 10000}[random.nextInt(5)];
        ticks = new int[] {1, 3, 30, 1000}[random.nextInt(4)];
        rarely = new int[] {2, 10, 60}[random.nextInt(3)];
        growth = new int[] {1, 3, 8}[random.nextInt(3)];
        favourite = random.nextInt(5);
        changes = new int[] {40, 60, 80}[random.nextInt(3)];
    }

    public static void main(String[] args) {
        Checks checks = new Checks("ModelTest");
        int failedRuns = 0;
        for (int seed = 0; seed < RUNS && failedRuns < 3; seed++) {
            String fault = new ModelTest(seed).firstFault();
            checks.part("seed " + seed);
            checks.same("the run", "as due", fault);
            failedRuns += fault.equals("as due") ? 0 : 1;
        }
        checks.finish();
    }

    private String firstFault() {
        List<String> told = new ArrayList<>();
        for (int i = 0; i < CALLS; i++) {
            String[] names = new String[1];
            Object[] answers = oneCall(names);
            told.add(names[0] + " = " + answers[0]);
            if (!answers[0].equals(answers[1])) {
                return String.join("\n  ", told) + "\n  where the model answers " + answers[1];
            }
        }
        return "as due";
    }

    private Object[] both(String[] names, String name, Checks.Call ofServer, Checks.Call ofModel) {
        names[0] = name;
        return new Object[] {Checks.answerOf(ofServer), Checks.answerOf(ofModel)};
    }

    private Object[] oneCall(String[] names) {
        int key = random.nextInt(150) == 0 ? (random.nextBoolean() ? -1 : 16) : firstKey + random.nextInt(keys);
        int draw = random.nextInt(100);
        if (draw < changes) {
            return change(names, key);
        }
        if (draw < changes + 10) {
            return keyOrLogCall(names, key);
        }
        return question(names, key);
    }

    private int value() {
        int wrong = random.nextInt(200);
        return wrong == 0 ? -1 : wrong == 1 ? 10000 : wrong == 2 ? 9999 : random.nextInt(range);
    }

    private int typeToUse(int key) {
        int type = key < 0 || key > 15 ? 0 : model.typeOf(key);
        if (type == 0 || random.nextInt(40) == 0) {
            return favourite == 0 || random.nextInt(6) == 0 ? 1 + random.nextInt(4) : favourite;
        }
        return type;
    }

    private Object[] change(String[] names, int key) {
        int value = value();
        boolean atEnd = random.nextBoolean();
        boolean grows = random.nextInt(growth + 1) != 0;
        switch (typeToUse(key)) {
            case Compactforms.LIST:
                return grows
                    ? both(names, "push(" + key + ", " + value + ", " + atEnd + ")",
                        () -> server.push(key, value, atEnd), () -> model.push(key, value, atEnd))
                    : both(names, "pop(" + key + ", " + atEnd + ")",
                        () -> server.pop(key, atEnd), () -> model.pop(key, atEnd));
            case Compactforms.SET:
                return grows
                    ? both(names, "add(" + key + ", " + value + ")",
                        () -> server.add(key, value), () -> model.add(key, value))
                    : take(names, key, value);
            case Compactforms.SORTED:
                int bits = random.nextInt(8) == 0 ? random.nextInt() : POINTS[random.nextInt(POINTS.length)];
                return grows
                    ? both(names, "rate(" + key + ", " + value + ", " + bits + ")",
                        () -> server.rate(key, value, bits), () -> model.rate(key, value, bits))
                    : take(names, key, value);
            default:
                return streamCall(names, key, value);
        }
    }

    private Object[] take(String[] names, int key, int value) {
        return both(names, "take(" + key + ", " + value + ")",
            () -> server.take(key, value), () -> model.take(key, value));
    }

    private Object[] streamCall(String[] names, int key, int value) {
        int group = random.nextInt(100) == 0 ? (random.nextBoolean() ? -1 : 3) : random.nextInt(3);
        int reader = random.nextInt(100) == 0 ? (random.nextBoolean() ? -1 : 4) : random.nextInt(4);
        switch (random.nextInt(6)) {
            case 0:
            case 1:
                return both(names, "append(" + key + ", " + value + ")",
                    () -> server.append(key, value), () -> model.append(key, value));
            case 2:
            case 3:
                return both(names, "read(" + key + ", " + group + ", " + reader + ")",
                    () -> server.read(key, group, reader), () -> model.read(key, group, reader));
            case 4:
                int entry = random.nextInt(44) - 2;
                return both(names, "done(" + key + ", " + group + ", " + entry + ")",
                    () -> server.done(key, group, entry), () -> model.done(key, group, entry));
            default:
                int claimed = random.nextInt(50) == 0 ? (random.nextBoolean() ? -1 : 1001) : random.nextInt(ticks + 1);
                return both(names, "claim(" + key + ", " + group + ", " + reader + ", " + claimed + ")",
                    () -> server.claim(key, group, reader, claimed), () -> model.claim(key, group, reader, claimed));
        }
    }

    private Object[] keyOrLogCall(String[] names, int key) {
        int many = random.nextInt(60) == 0 ? (random.nextBoolean() ? 0 : 17) : 1 + random.nextInt(16) % (1 + random.nextInt(16));
        int time = random.nextInt(60) == 0 ? (random.nextBoolean() ? 0 : 1001) : 1 + random.nextInt(ticks);
        switch (random.nextInt(8)) {
            case 0:
                if (random.nextInt(rarely) == 0) {
                    return both(names, "remove(" + key + ")", () -> server.remove(key), () -> model.remove(key));
                }
                return both(names, "rows()", () -> server.rows(), () -> model.rows());
            case 1:
                int end = random.nextInt(60) == 0 ? time : Math.min(1000, time * 5);
                if (random.nextInt(rarely) < 2) {
                    return both(names, "expire(" + key + ", " + end + ")",
                        () -> server.expire(key, end), () -> model.expire(key, end));
                }
                return both(names, "held()", () -> server.held(), () -> model.held());
            case 2:
                return both(names, "tick(" + time + ")", () -> server.tick(time), () -> model.tick(time));
            case 3:
                return both(names, "sample(" + many + ")", () -> server.sample(many), () -> model.sample(many));
            case 4:
                return both(names, "rewrite()", () -> server.rewrite(), () -> model.rewrite());
            case 5:
            case 6:
                return both(names, "writeOn(" + many + ")", () -> server.writeOn(many), () -> model.writeOn(many));
            default:
                return both(names, "restart()", () -> server.restart(), () -> model.restart());
        }
    }

    private Object[] question(String[] names, int key) {
        int value = value();
        int index = random.nextInt(30) == 0 ? random.nextInt() : random.nextInt(12) == 0 ? random.nextInt(42) - 1
            : key < 0 || key > 15 ? 0 : random.nextInt(1 + model.size(key));
        int cursor = random.nextInt(60) == 0 ? (random.nextBoolean() ? -1 : 1024) : random.nextInt(1024);
        int group = random.nextInt(100) == 0 ? (random.nextBoolean() ? -1 : 3) : random.nextInt(3);
        int reader = random.nextInt(100) == 0 ? (random.nextBoolean() ? -1 : 4) : random.nextInt(4);
        switch (random.nextInt(12)) {
            case 0:
                return both(names, "typeOf(" + key + ")", () -> server.typeOf(key), () -> model.typeOf(key));
            case 1:
                return both(names, "formOf(" + key + ")", () -> server.formOf(key), () -> model.formOf(key));
            case 2:
                return both(names, "size(" + key + ")", () -> server.size(key), () -> model.size(key));
            case 3:
                return both(names, "at(" + key + ", " + index + ")",
                    () -> server.at(key, index), () -> model.at(key, index));
            case 4:
                return both(names, "atByPlain(" + key + ", " + index + ")",
                    () -> server.atByPlain(key, index), () -> model.at(key, index));
            case 5:
                return both(names, "indexOf(" + key + ", " + value + ")",
                    () -> server.indexOf(key, value), () -> model.indexOf(key, value));
            case 6:
                return both(names, "points(" + key + ", " + value + ")",
                    () -> server.points(key, value), () -> model.points(key, value));
            case 7:
                return both(names, "next(" + key + ", " + cursor + ")",
                    () -> server.next(key, cursor), () -> model.next(key, cursor));
            case 8:
                int place = index > 3 && random.nextInt(3) != 0 ? random.nextInt(3) : index;
                return both(names, "scanned(" + key + ", " + cursor + ", " + place + ")",
                    () -> server.scanned(key, cursor, place), () -> model.scanned(key, cursor, place));
            case 9:
                return both(names, "waiting(" + key + ", " + group + ", " + reader + ")",
                    () -> server.waiting(key, group, reader), () -> model.waiting(key, group, reader));
            case 10:
                return both(names, "left(" + key + ")", () -> server.left(key), () -> model.left(key));
            default:
                return random.nextBoolean()
                    ? both(names, "held()", () -> server.held(), () -> model.held())
                    : both(names, "rows()", () -> server.rows(), () -> model.rows());
        }
    }
}
