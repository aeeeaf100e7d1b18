import java.io.ByteArrayInputStream;
import java.io.DataInputStream;
import java.io.IOException;
import java.io.InputStream;
import java.util.ArrayList;
import java.util.List;

/** A compiled class: of each of its methods, whom it calls and what it does that LANGUAGE.md rules out. */
final class ClassFile {
    private static final int UTF8 = 1;
    private static final int LONG = 5;
    private static final int DOUBLE = 6;
    private static final int INVOKE_FIRST = 182;
    private static final int INVOKE_LAST = 185;
    private static final int INVOKE_DYNAMIC = 186;
    private static final int THROW = 191;

    /** A method; it and those that it calls are named as Class.method. */
    static final class Body {
        String name;
        final List<String> calls = new ArrayList<>();
        int throwing;
        int catching;
        int dynamic;
        int making;
    }

    final List<Body> bodies = new ArrayList<>();
    private final String[] texts;
    // Of a class the number of its name; of a method its class and its name with its type; of these two both.
    private final int[] first;
    private final int[] second;
    private final String name;

    ClassFile(InputStream stream) throws IOException {
        DataInputStream in = new DataInputStream(stream);
        in.skipBytes(8);
        int count = in.readUnsignedShort();
        texts = new String[count];
        first = new int[count];
        second = new int[count];
        readConstants(in, count);
        in.skipBytes(2);
        name = texts[first[in.readUnsignedShort()]];
        in.skipBytes(2);
        in.skipBytes(2 * in.readUnsignedShort());
        readMembers(in, false);
        readMembers(in, true);
    }

    private void readConstants(DataInputStream in, int count) throws IOException {
        for (int i = 1; i < count; i++) {
            int tag = in.readUnsignedByte();
            switch (tag) {
                case UTF8: texts[i] = in.readUTF(); break;
                case 7: case 8: case 16: case 19: case 20: first[i] = in.readUnsignedShort(); break;
                case 15: in.skipBytes(3); break;
                case LONG: case DOUBLE: in.skipBytes(8); break;
                case 3: case 4: in.skipBytes(4); break;
                default:
                    first[i] = in.readUnsignedShort();
                    second[i] = in.readUnsignedShort();
            }
            i += tag == LONG || tag == DOUBLE ? 1 : 0;
        }
    }

    private void readMembers(DataInputStream in, boolean methods) throws IOException {
        int members = in.readUnsignedShort();
        for (int i = 0; i < members; i++) {
            in.skipBytes(2);
            Body body = new Body();
            body.name = name + "." + texts[in.readUnsignedShort()];
            in.skipBytes(2);
            int attributes = in.readUnsignedShort();
            for (int k = 0; k < attributes; k++) {
                String sort = texts[in.readUnsignedShort()];
                byte[] bytes = new byte[in.readInt()];
                in.readFully(bytes);
                if (sort.equals("Code")) {
                    readCode(bytes, body);
                }
            }
            if (methods) {
                bodies.add(body);
            }
        }
    }

    private void readCode(byte[] bytes, Body body) throws IOException {
        DataInputStream in = new DataInputStream(new ByteArrayInputStream(bytes));
        in.skipBytes(4);
        byte[] code = new byte[in.readInt()];
        in.readFully(code);
        body.catching = in.readUnsignedShort();
        for (int at = 0; at < code.length; at += lengthAt(code, at)) {
            int op = code[at] & 255;
            if (op >= INVOKE_FIRST && op <= INVOKE_LAST) {
                int method = shortAt(code, at + 1);
                body.calls.add(texts[first[first[method]]] + "." + texts[first[second[method]]]);
            }
            body.dynamic += op == INVOKE_DYNAMIC ? 1 : 0;
            body.throwing += op == THROW ? 1 : 0;
            body.making += op >= 187 && op <= 189 || op == 197 ? 1 : 0;
        }
    }

    private static int shortAt(byte[] code, int at) {
        return (code[at] & 255) << 8 | code[at + 1] & 255;
    }

    private static int intAt(byte[] code, int at) {
        return shortAt(code, at) << 16 | shortAt(code, at + 2);
    }

    private static int lengthAt(byte[] code, int at) {
        int op = code[at] & 255;
        int padded = at + 4 - at % 4;
        switch (op) {
            case 170: return padded + 12 + 4 * (intAt(code, padded + 8) - intAt(code, padded + 4) + 1) - at;
            case 171: return padded + 8 + 8 * intAt(code, padded + 4) - at;
            case 196: return (code[at + 1] & 255) == 132 ? 6 : 4;
            case 185: case 186: case 200: case 201: return 5;
            case 197: return 4;
            case 17: case 19: case 20: case 132: case 187: case 189: case 192: case 193: case 198: case 199: return 3;
            case 16: case 18: case 169: case 188: return 2;
            default:
        }
        if (op >= 21 && op <= 25 || op >= 54 && op <= 58) {
            return 2;
        }
        return op >= 153 && op <= 168 || op >= 178 && op <= 184 ? 3 : 1;
    }
}
