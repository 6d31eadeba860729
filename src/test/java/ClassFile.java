import java.io.DataInputStream;
import java.io.IOException;
import java.util.ArrayList;
import java.util.LinkedHashMap;
import java.util.List;
import java.util.Map;

/** A compiled class, read as far as CompiledTest asks: of each method its instructions and what it calls. */
final class ClassFile {
    static final class Code {
        final List<Integer> instructions = new ArrayList<>();
        final List<String> calls = new ArrayList<>();
        int handlers;
        boolean isPublic;
    }

    private static final int PUBLIC = 1;
    private static final int TABLESWITCH = 170;
    private static final int LOOKUPSWITCH = 171;
    private static final int FIRST_CALL = 182;
    private static final int LAST_CALL = 185;
    private static final int WIDE = 196;
    private static final int IINC = 132;

    /** By name, as Class.method(types)answer. */
    final Map<String, Code> methods = new LinkedHashMap<>();
    private Object[] pool;

    ClassFile(Class<?> read) throws IOException {
        String resource = read.getName().replace('.', '/') + ".class";
        try (DataInputStream in = new DataInputStream(read.getClassLoader().getResourceAsStream(resource))) {
            in.skipBytes(8);
            readPool(in);
            in.skipBytes(6);
            in.skipBytes(2 * in.readUnsignedShort());
            readMembers(in, null);
            readMembers(in, read.getName());
        }
    }

    private void readPool(DataInputStream in) throws IOException {
        pool = new Object[in.readUnsignedShort()];
        for (int i = 1; i < pool.length; i++) {
            int tag = in.readUnsignedByte();
            switch (tag) {
                case 1: pool[i] = in.readUTF(); break;
                case 5: case 6: in.readLong(); i++; break;
                case 7: case 8: case 16: case 19: case 20: pool[i] = new int[] {in.readUnsignedShort()}; break;
                case 15: in.skipBytes(3); break;
                case 3: case 4: in.readInt(); break;
                default: pool[i] = new int[] {in.readUnsignedShort(), in.readUnsignedShort()}; break;
            }
        }
    }

    private String text(int at) {
        return (String) pool[at];
    }

    private int part(int at, int which) {
        return ((int[]) pool[at])[which];
    }

    private void readMembers(DataInputStream in, String owner) throws IOException {
        int members = in.readUnsignedShort();
        for (int i = 0; i < members; i++) {
            int flags = in.readUnsignedShort();
            String name = text(in.readUnsignedShort());
            String type = text(in.readUnsignedShort());
            Code code = new Code();
            code.isPublic = (flags & PUBLIC) != 0;
            int attributes = in.readUnsignedShort();
            for (int k = 0; k < attributes; k++) {
                String attribute = text(in.readUnsignedShort());
                int length = in.readInt();
                if (owner != null && attribute.equals("Code")) {
                    readCode(in, length, code);
                } else {
                    in.skipBytes(length);
                }
            }
            if (owner != null) {
                methods.put(owner + "." + name + type, code);
            }
        }
    }

    private void readCode(DataInputStream in, int length, Code code) throws IOException {
        in.skipBytes(4);
        int size = in.readInt();
        byte[] bytes = new byte[size];
        in.readFully(bytes);
        code.handlers = in.readUnsignedShort();
        in.skipBytes(length - 10 - size);
        int at = 0;
        while (at < size) {
            int op = bytes[at] & 255;
            code.instructions.add(op);
            if (op >= FIRST_CALL && op <= LAST_CALL) {
                code.calls.add(called((bytes[at + 1] & 255) << 8 | bytes[at + 2] & 255));
            }
            at += lengthOf(op, bytes, at);
        }
    }

    private String called(int method) {
        String owner = text(part(part(method, 0), 0)).replace('/', '.');
        int nameAndType = part(method, 1);
        return owner + "." + text(part(nameAndType, 0)) + text(part(nameAndType, 1));
    }

    private static int lengthOf(int op, byte[] bytes, int at) {
        int table = (at + 4) / 4 * 4;
        if (op == TABLESWITCH) {
            return table + 12 + 4 * (number(bytes, table + 8) - number(bytes, table + 4) + 1) - at;
        }
        if (op == LOOKUPSWITCH) {
            return table + 8 + 8 * number(bytes, table + 4) - at;
        }
        if (op == WIDE) {
            return (bytes[at + 1] & 255) == IINC ? 6 : 4;
        }
        if (op == 185 || op == 186 || op == 200 || op == 201) {
            return 5;
        }
        if (op == 197) {
            return 4;
        }
        if (op == 17 || op == 19 || op == 20 || op == IINC || op >= 153 && op <= 168 || op >= 178 && op <= 184
                || op == 187 || op == 189 || op == 192 || op == 193 || op == 198 || op == 199) {
            return 3;
        }
        return op == 16 || op == 18 || op >= 21 && op <= 25 || op >= 54 && op <= 58 || op == 169 || op == 188 ? 2 : 1;
    }

    private static int number(byte[] bytes, int at) {
        return (bytes[at] & 255) << 24 | (bytes[at + 1] & 255) << 16 | (bytes[at + 2] & 255) << 8 | bytes[at + 3] & 255;
    }
}
