import java.io.ByteArrayInputStream;
import java.io.DataInputStream;
import java.io.IOException;
import java.io.InputStream;
import java.nio.ByteBuffer;
import java.util.ArrayList;
import java.util.List;
import java.util.Map;
import java.util.Set;
import java.util.TreeMap;
import java.util.TreeSet;

/** Rules 4, 8 and 11: which calls there are and how deep they go, read from the compiled classes. */
public final class DepthTests extends Checks {
    private static final int DEEPEST = 8;
    private static final Set<String> LIBRARY = Set.of("java/lang/Object.<init>", "java/lang/Math.min",
        "java/lang/Math.max", "java/lang/Math.abs", "java/util/Arrays.fill");
    private static final Map<String, Set<String>> calls = new TreeMap<>();
    private static final Map<String, Integer> depths = new TreeMap<>();

    public static void main(String[] args) throws IOException {
        read(AnyLength.class);
        for (Class<?> c : AnyLength.class.getDeclaredClasses()) read(c);
        int deepest = 0;
        for (String method : calls.keySet()) deepest = Math.max(deepest, depth(method, new ArrayList<>()));
        if (calls.size() < 100) tellWrong("only " + calls.size() + " methods were read");
        finish("calls: " + calls.size() + " methods, " + deepest + " deep");
    }

    private static int depth(String method, List<String> open) {
        if (!calls.containsKey(method)) {
            if (!LIBRARY.contains(method)) tellWrong("a call outside the rules: " + method);
            return 0;
        }
        if (open.contains(method)) {
            tellWrong("a method that calls itself: " + method);
            return 0;
        }
        Integer known = depths.get(method);
        if (known != null) return known;
        open.add(method);
        int below = 0;
        for (String next : calls.get(method)) below = Math.max(below, depth(next, open));
        open.remove(open.size() - 1);
        if (below + 1 > DEEPEST) tellWrong("calls go " + (below + 1) + " deep from " + method);
        depths.put(method, below + 1);
        return below + 1;
    }

    // ---- a class file

    private static void read(Class<?> type) throws IOException {
        String file = type.getName().replace('.', '/') + ".class";
        try (InputStream in = type.getClassLoader().getResourceAsStream(file)) {
            DataInputStream data = new DataInputStream(new ByteArrayInputStream(in.readAllBytes()));
            data.skipBytes(8);
            Object[] pool = readPool(data);
            data.skipBytes(2);
            String name = nameAt(pool, data.readUnsignedShort());
            data.skipBytes(2);
            data.skipBytes(2 * data.readUnsignedShort());
            for (int fields = data.readUnsignedShort(); fields > 0; fields--) readMember(data, pool, null);
            for (int methods = data.readUnsignedShort(); methods > 0; methods--) readMember(data, pool, name);
        }
    }

    /** Texts as they are; all else as numbers: the one or two indices that it has. */
    private static Object[] readPool(DataInputStream data) throws IOException {
        Object[] pool = new Object[data.readUnsignedShort()];
        for (int i = 1; i < pool.length; i++) {
            int tag = data.readUnsignedByte();
            switch (tag) {
                case 1 -> pool[i] = data.readUTF();
                case 3, 4, 17, 18 -> data.skipBytes(4);
                case 5, 6 -> {
                    data.skipBytes(8);
                    i++;
                }
                case 9, 10, 11, 12 -> pool[i] = new int[] {data.readUnsignedShort(), data.readUnsignedShort()};
                case 15 -> data.skipBytes(3);
                default -> pool[i] = new int[] {data.readUnsignedShort()};
            }
        }
        return pool;
    }

    private static String nameAt(Object[] pool, int index) {
        return (String) pool[((int[]) pool[index])[0]];
    }

    private static void readMember(DataInputStream data, Object[] pool, String owner) throws IOException {
        data.skipBytes(2);
        String method = owner + "." + pool[data.readUnsignedShort()];
        data.skipBytes(2);
        for (int attributes = data.readUnsignedShort(); attributes > 0; attributes--) {
            boolean isCode = "Code".equals(pool[data.readUnsignedShort()]);
            byte[] bytes = new byte[data.readInt()];
            data.readFully(bytes);
            if (owner == null || !isCode) continue;
            int length = ByteBuffer.wrap(bytes).getInt(4);
            readCode(ByteBuffer.wrap(bytes, 8, length).slice(), pool, calls.computeIfAbsent(method, m -> new TreeSet<>()));
        }
    }

    private static void readCode(ByteBuffer code, Object[] pool, Set<String> called) {
        for (int at = 0; at < code.limit(); at += size(code, at)) {
            int op = code.get(at) & 255;
            if (op == 185 || op == 186) tellWrong("a call by an interface or a lambda");
            if (op < 182 || op > 184) continue;
            int[] ref = (int[]) pool[code.getShort(at + 1) & 65535];
            called.add(nameAt(pool, ref[0]) + "." + nameAt(pool, ref[1]));
        }
    }

    private static int size(ByteBuffer code, int at) {
        int op = code.get(at) & 255;
        int aligned = at + 4 - at % 4;
        if (op == 170) return aligned + 12 + 4 * (code.getInt(aligned + 8) - code.getInt(aligned + 4) + 1) - at;
        if (op == 171) return aligned + 8 + 8 * code.getInt(aligned + 4) - at;
        if (op == 196) return (code.get(at + 1) & 255) == 132 ? 6 : 4;
        if (op == 197) return 4;
        if (op == 185 || op == 186 || op == 200 || op == 201) return 5;
        if (op == 16 || op == 18 || op >= 21 && op <= 25 || op >= 54 && op <= 58 || op == 169 || op == 188) return 2;
        boolean three = op == 17 || op == 19 || op == 20 || op == 132 || op >= 153 && op <= 168 || op >= 178 && op <= 184
            || op == 187 || op == 189 || op == 192 || op == 193 || op == 198 || op == 199;
        return three ? 3 : 1;
    }
}
