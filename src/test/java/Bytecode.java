import java.io.DataInputStream;
import java.io.IOException;
import java.io.InputStream;
import java.util.ArrayList;
import java.util.LinkedHashMap;
import java.util.List;
import java.util.Map;

/** The instructions of a compiled class, method by method: what its text might hide shows here. */
final class Bytecode {
    static final int LDC = 18, IDIV = 108, LDIV = 109, IREM = 112, LREM = 113, INVOKEVIRTUAL = 182;
    static final int INVOKEINTERFACE = 185, INVOKEDYNAMIC = 186, NEW = 187, NEWARRAY = 188, ANEWARRAY = 189;
    static final int ATHROW = 191, CHECKCAST = 192, MONITORENTER = 194, MONITOREXIT = 195, MULTIANEWARRAY = 197;
    private static final int TABLESWITCH = 170, LOOKUPSWITCH = 171, WIDE = 196, IINC = 132;

    /** One instruction: its number, the member or class that it names (or ""), the number that it pushes (or 0). */
    static final class Step {
        final int opcode;
        final String names;
        final int pushes;

        Step(int opcode, String names, int pushes) {
            this.opcode = opcode;
            this.names = names;
            this.pushes = pushes;
        }

        boolean calls() {
            return opcode >= INVOKEVIRTUAL && opcode <= INVOKEDYNAMIC;
        }
    }

    final String name;
    final String above;
    /** By owner, name and descriptor, as calls name them. */
    final Map<String, List<Step>> methods = new LinkedHashMap<>();
    int catches = 0;

    private final DataInputStream in;
    private final Object[] pool;
    private final int[] tags;

    private Bytecode(DataInputStream in) throws IOException {
        this.in = in;
        in.readInt();
        in.readInt();
        pool = new Object[in.readUnsignedShort()];
        tags = new int[pool.length];
        readPool();
        in.readUnsignedShort();
        name = named(in.readUnsignedShort());
        above = named(in.readUnsignedShort());
        for (int i = in.readUnsignedShort(); i > 0; i--) {
            in.readUnsignedShort();
        }
        for (int i = in.readUnsignedShort(); i > 0; i--) {
            readMember();
        }
        for (int i = in.readUnsignedShort(); i > 0; i--) {
            readMember();
        }
    }

    static Bytecode of(Class<?> one) throws IOException {
        String file = one.getName() + ".class";
        try (InputStream stream = one.getClassLoader().getResourceAsStream(file)) {
            return new Bytecode(new DataInputStream(stream));
        }
    }

    // ---- the constants

    private void readPool() throws IOException {
        for (int i = 1; i < pool.length; i++) {
            tags[i] = in.readUnsignedByte();
            switch (tags[i]) {
                case 1:
                    pool[i] = in.readUTF();
                    break;
                case 3:
                case 4:
                    pool[i] = new int[] {in.readInt()};
                    break;
                case 5:
                case 6:
                    in.readLong();
                    i++;
                    break;
                case 7:
                case 8:
                case 16:
                case 19:
                case 20:
                    pool[i] = new int[] {in.readUnsignedShort()};
                    break;
                case 15:
                    in.readUnsignedByte();
                    in.readUnsignedShort();
                    break;
                default:
                    pool[i] = new int[] {in.readUnsignedShort(), in.readUnsignedShort()};
            }
        }
    }

    /** What a constant names: a text, a class, or a member as owner.name:descriptor. */
    private String named(int index) {
        if (pool[index] instanceof String) {
            return (String) pool[index];
        }
        int[] parts = (int[]) pool[index];
        if (parts == null || tags[index] == 3 || tags[index] == 4) {
            return "";
        }
        if (parts.length == 1) {
            return parts[0] == 0 ? "" : named(parts[0]);
        }
        return named(parts[0]) + (tags[index] == 12 ? ":" : ".") + named(parts[1]);
    }

    // ---- members and their instructions

    private void readMember() throws IOException {
        in.readUnsignedShort();
        String member = name + "." + named(in.readUnsignedShort()) + ":" + named(in.readUnsignedShort());
        for (int i = in.readUnsignedShort(); i > 0; i--) {
            String attribute = named(in.readUnsignedShort());
            byte[] body = new byte[in.readInt()];
            in.readFully(body);
            if (attribute.equals("Code")) {
                methods.put(member, steps(body));
            }
        }
    }

    private static int u1(byte[] code, int place) {
        return code[place] & 255;
    }

    private static int u2(byte[] code, int place) {
        return u1(code, place) << 8 | u1(code, place + 1);
    }

    private static int u4(byte[] code, int place) {
        return u2(code, place) << 16 | u2(code, place + 2);
    }

    private List<Step> steps(byte[] body) {
        List<Step> steps = new ArrayList<>();
        int start = 8;
        int end = start + u4(body, 4);
        catches += u2(body, end);
        for (int at = start; at < end; at += length(body, at, start)) {
            steps.add(step(body, at));
        }
        return steps;
    }

    private Step step(byte[] body, int at) {
        int opcode = u1(body, at);
        boolean names = opcode >= 178 && opcode <= NEW || opcode == ANEWARRAY || opcode == CHECKCAST || opcode == 193;
        int pushes = 0;
        if (opcode >= 2 && opcode <= 8) {
            pushes = opcode - 3;
        } else if (opcode == 16) {
            pushes = body[at + 1];
        } else if (opcode == 17) {
            pushes = (short) u2(body, at + 1);
        } else if (opcode == LDC && tags[u1(body, at + 1)] == 3) {
            pushes = ((int[]) pool[u1(body, at + 1)])[0];
        }
        return new Step(opcode, names ? named(u2(body, at + 1)) : "", pushes);
    }

    private static int length(byte[] body, int at, int start) {
        int opcode = u1(body, at);
        int aligned = at + 4 - (at - start) % 4;
        switch (opcode) {
            case TABLESWITCH:
                return aligned - at + 12 + 4 * (u4(body, aligned + 8) - u4(body, aligned + 4) + 1);
            case LOOKUPSWITCH:
                return aligned - at + 8 + 8 * u4(body, aligned + 4);
            case WIDE:
                return u1(body, at + 1) == IINC ? 6 : 4;
            case MULTIANEWARRAY:
                return 4;
            default:
                return plainLength(opcode);
        }
    }

    private static int plainLength(int opcode) {
        if (opcode == INVOKEINTERFACE || opcode == INVOKEDYNAMIC || opcode == 200 || opcode == 201) {
            return 5;
        }
        boolean three = opcode == 17 || opcode == 19 || opcode == 20 || opcode == IINC || opcode >= 153 && opcode <= 168
            || opcode >= 178 && opcode <= 184 || opcode == NEW || opcode == ANEWARRAY || opcode == CHECKCAST
            || opcode == 193 || opcode == 198 || opcode == 199;
        if (three) {
            return 3;
        }
        boolean two = opcode == 16 || opcode == LDC || opcode >= 21 && opcode <= 25 || opcode >= 54 && opcode <= 58
            || opcode == 169 || opcode == NEWARRAY;
        return two ? 2 : 1;
    }
}
