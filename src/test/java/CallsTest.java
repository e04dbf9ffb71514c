import java.io.DataInputStream;
import java.io.IOException;
import java.nio.ByteBuffer;
import java.util.ArrayDeque;
import java.util.Deque;
import java.util.Map;
import java.util.Set;
import java.util.TreeMap;
import java.util.TreeSet;

/**
 * What the compiled class tells of rules 6, 8, 11 and 12 of LANGUAGE.md: how deep calls go, that none goes back into
 * itself, that nothing is caught or thrown, and that nothing is made but by constructors.
 */
public final class CallsTest {
    private static final Check CHECK = new Check("CallsTest");
    private static final int DEEPEST = 8;

    private static final int TABLESWITCH = 170;
    private static final int LOOKUPSWITCH = 171;
    private static final int INVOKE_FIRST = 182;
    private static final int INVOKE_LAST = 185;
    private static final int INVOKEDYNAMIC = 186;
    private static final int NEW_FIRST = 187;
    private static final int NEW_LAST = 189;
    private static final int THROW = 191;
    private static final int MULTINEW = 197;
    private static final int WIDE = 196;
    private static final int WIDE_IINC = 132;
    /** How many bytes an instruction has: from each number on as many as stand behind it; 0: it tells itself. */
    private static final int[][] LENGTHS = {{0, 1}, {16, 2}, {17, 3}, {18, 2}, {19, 3}, {21, 2}, {26, 1}, {54, 2}, {59, 1},
        {132, 3}, {133, 1}, {153, 3}, {169, 2}, {170, 0}, {172, 1}, {178, 3}, {185, 5}, {187, 3}, {188, 2}, {189, 3}, {190, 1},
        {192, 3}, {194, 1}, {196, 0}, {197, 4}, {198, 3}, {200, 5}};

    private final Map<String, Set<String>> calls = new TreeMap<>();
    private final Map<String, Integer> depths = new TreeMap<>();
    private final Deque<String> open = new ArrayDeque<>();
    private Object[] constants = {};

    public static void main(String[] args) throws IOException {
        new CallsTest().look();
        CHECK.finish();
    }

    private void look() throws IOException {
        readClass(HeapVersions.class);
        for (Class<?> inside : HeapVersions.class.getDeclaredClasses()) {
            readClass(inside);
        }
        int deepest = 0;
        for (String method : calls.keySet()) {
            int depth = depth(method);
            deepest = Math.max(deepest, depth);
            CHECK.due("calls that stand open in " + method + ", beyond " + DEEPEST, Math.max(0, depth - DEEPEST), 0);
        }
        // were no call found at all, nothing would have been looked at
        CHECK.due("the way down from plan() is seen", deepest > 5 ? 1 : 0, 1);
    }

    /** How many calls stand open at once, this one and those of the library counted. */
    private int depth(String method) {
        if (depths.containsKey(method)) {
            return depths.get(method);
        }
        if (open.contains(method)) {
            CHECK.wrong("recursion: " + method + " over " + open);
            return 0;
        }
        open.push(method);
        int below = 0;
        for (String called : calls.getOrDefault(method, Set.of())) {
            below = Math.max(below, depth(called));
        }
        open.pop();
        depths.put(method, below + 1);
        return below + 1;
    }

    private void readClass(Class<?> c) throws IOException {
        try (DataInputStream in = new DataInputStream(c.getResourceAsStream(c.getName() + ".class"))) {
            in.skipBytes(8);
            readConstants(in);
            in.skipBytes(6);
            in.skipBytes(2 * in.readUnsignedShort());
            readMembers(in, c.getName());
            readMembers(in, c.getName());
        }
    }

    private void readConstants(DataInputStream in) throws IOException {
        constants = new Object[in.readUnsignedShort()];
        for (int i = 1; i < constants.length; i++) {
            int tag = in.readUnsignedByte();
            switch (tag) {
                case 1: constants[i] = in.readUTF(); break;
                case 3: case 4: case 17: case 18: in.readInt(); break;
                case 5: case 6: in.readLong(); i++; break;
                case 9: case 10: case 11: case 12:
                    constants[i] = new int[] {in.readUnsignedShort(), in.readUnsignedShort()}; break;
                case 15: in.skipBytes(3); break;
                default: constants[i] = new int[] {in.readUnsignedShort()}; break;
            }
        }
    }

    private int part(int constant, int i) {
        return ((int[]) constants[constant])[i];
    }

    private String named(int reference) {
        String owner = (String) constants[part(part(reference, 0), 0)];
        int name = part(reference, 1);
        return owner + "." + constants[part(name, 0)] + constants[part(name, 1)];
    }

    /** Fields and methods alike; fields have no code. */
    private void readMembers(DataInputStream in, String owner) throws IOException {
        for (int members = in.readUnsignedShort(); members > 0; members--) {
            in.skipBytes(2);
            String name = owner + "." + constants[in.readUnsignedShort()] + constants[in.readUnsignedShort()];
            for (int attributes = in.readUnsignedShort(); attributes > 0; attributes--) {
                String attribute = (String) constants[in.readUnsignedShort()];
                byte[] bytes = new byte[in.readInt()];
                in.readFully(bytes);
                if (attribute.equals("Code")) {
                    readCode(ByteBuffer.wrap(bytes), name);
                }
            }
        }
    }

    private void readCode(ByteBuffer code, String name) {
        Set<String> called = new TreeSet<>();
        calls.put(name, called);
        int begin = 8;
        int end = begin + code.getInt(4);
        int at = begin;
        while (at < end) {
            int instruction = code.get(at) & 255;
            if (instruction >= INVOKE_FIRST && instruction <= INVOKE_LAST) {
                called.add(named(code.getShort(at + 1) & 0xffff));
            }
            boolean makes = instruction >= NEW_FIRST && instruction <= NEW_LAST || instruction == MULTINEW;
            CHECK.due(name + " makes something", makes && !name.contains("<init>") ? 1 : 0, 0);
            CHECK.due(name + " throws, or has a lambda", instruction == THROW || instruction == INVOKEDYNAMIC ? 1 : 0, 0);
            at += length(code, at, begin);
        }
        CHECK.due(name + " ends with its last instruction", at, end);
        CHECK.due(name + " catches", code.getShort(end), 0);
    }

    private static int length(ByteBuffer code, int at, int begin) {
        int instruction = code.get(at) & 255;
        int padded = at + 4 - (at - begin) % 4;
        if (instruction == TABLESWITCH) {
            return padded + 12 + 4 * (code.getInt(padded + 8) - code.getInt(padded + 4) + 1) - at;
        }
        if (instruction == LOOKUPSWITCH) {
            return padded + 8 + 8 * code.getInt(padded + 4) - at;
        }
        if (instruction == WIDE) {
            return (code.get(at + 1) & 255) == WIDE_IINC ? 6 : 4;
        }
        int length = 1;
        for (int[] from : LENGTHS) {
            length = instruction >= from[0] ? from[1] : length;
        }
        return length;
    }
}
