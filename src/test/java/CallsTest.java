import java.io.DataInputStream;
import java.io.IOException;
import java.io.InputStream;
import java.util.ArrayList;
import java.util.Arrays;
import java.util.HashMap;
import java.util.HashSet;
import java.util.List;
import java.util.Map;
import java.util.Set;
import java.util.TreeMap;
import java.util.TreeSet;

/**
 * Looks after those rules of LANGUAGE.md that are about calls, in the compiled classes, where each
 * call tells whose method it means: what the library gives (4), no throw and the like (6), which
 * methods come back to themselves (8), how deep the others go (11).
 */
public final class CallsTest {
    private static final int DEEPEST = 8;
    private static final Set<String> LIBRARY = new HashSet<>(Arrays.asList(
            "java/lang/Object.<init>", "java/lang/String.charAt", "java/lang/String.length",
            "java/lang/System.arraycopy", "java/util/Arrays.fill", "java/lang/Long.bitCount",
            "java/lang/Math.abs", "java/lang/Math.floorDiv", "java/lang/Math.floorMod", "java/lang/Math.max",
            "java/lang/Math.min"));

    /** The parser's own, which carry how many brackets are open. */
    private static final Set<String> COME_BACK = new TreeSet<>(Arrays.asList(
            "ToldTracks$Parser.readTest", "ToldTracks$Parser.readBoth", "ToldTracks$Parser.readFact",
            "ToldTracks$Parser.readSum", "ToldTracks$Parser.readProduct", "ToldTracks$Parser.readPart",
            "ToldTracks$Parser.readChoice"));

    private static final int TABLE_SWITCH = 170;
    private static final int LOOKUP_SWITCH = 171;
    private static final int INVOKE_FIRST = 182;
    private static final int INVOKE_LAST = 185;
    private static final int INVOKE_DYNAMIC = 186;
    private static final int THROW = 191;
    private static final int ENTER_MONITOR = 194;
    private static final int WIDE = 196;

    private static final Map<String, Set<String>> CALLS = new TreeMap<>();
    private static final Map<String, Integer> DEPTHS = new HashMap<>();
    private static int wrong = 0;

    private static void rule(boolean holds, String what) {
        if (!holds) {
            wrong++;
            System.out.println("against the language: " + what);
        }
    }

    // ---- a class file

    /** The constants of a class as texts: a name itself, a class's name, class and method of a call. */
    private static String[] constants(DataInputStream in) throws IOException {
        int count = in.readUnsignedShort();
        String[] texts = new String[count];
        int[][] parts = new int[count][];
        for (int k = 1; k < count; k++) {
            int tag = in.readUnsignedByte();
            switch (tag) {
                case 1:
                    texts[k] = in.readUTF();
                    break;
                case 7:
                case 8:
                case 16:
                case 19:
                case 20:
                    parts[k] = new int[] {in.readUnsignedShort()};
                    break;
                case 15:
                    in.skipBytes(3);
                    break;
                case 9:
                case 10:
                case 11:
                case 12:
                case 17:
                case 18:
                    parts[k] = new int[] {in.readUnsignedShort(), in.readUnsignedShort(), tag};
                    break;
                case 5:
                case 6:
                    in.skipBytes(8);
                    k++;
                    break;
                default:
                    in.skipBytes(4);
                    break;
            }
        }
        for (int turn = 0; turn < 3; turn++) {
            for (int k = 1; k < count; k++) {
                if (parts[k] != null && texts[k] == null && texts[parts[k][0]] != null) {
                    String first = texts[parts[k][0]];
                    boolean alone = parts[k].length == 1 || parts[k][2] == 12;
                    String second = alone ? "" : texts[parts[k][1]];
                    texts[k] = alone ? first : second == null ? null : first + "." + second;
                }
            }
        }
        return texts;
    }

    private static void skipAttributes(DataInputStream in) throws IOException {
        for (int k = in.readUnsignedShort(); k > 0; k--) {
            in.readUnsignedShort();
            in.skipBytes(in.readInt());
        }
    }

    private static void readClass(Class<?> c) throws IOException {
        String file = c.getName() + ".class";
        try (InputStream bytes = c.getResourceAsStream("/" + file); DataInputStream in = new DataInputStream(bytes)) {
            in.skipBytes(8);
            String[] texts = constants(in);
            in.skipBytes(6);
            in.skipBytes(2 * in.readUnsignedShort());
            for (int k = in.readUnsignedShort(); k > 0; k--) {
                in.skipBytes(6);
                skipAttributes(in);
            }
            for (int k = in.readUnsignedShort(); k > 0; k--) {
                in.skipBytes(2);
                String method = c.getName() + "." + texts[in.readUnsignedShort()];
                in.skipBytes(2);
                readMethod(in, texts, method);
            }
        }
    }

    private static void readMethod(DataInputStream in, String[] texts, String method) throws IOException {
        Set<String> called = CALLS.computeIfAbsent(method, m -> new TreeSet<>());
        for (int k = in.readUnsignedShort(); k > 0; k--) {
            String name = texts[in.readUnsignedShort()];
            byte[] body = new byte[in.readInt()];
            in.readFully(body);
            if (name.equals("Code")) {
                readCode(body, texts, method, called);
            }
        }
    }

    // ---- the code of a method

    private static int two(byte[] b, int at) {
        return (b[at] & 255) << 8 | b[at + 1] & 255;
    }

    private static int four(byte[] b, int at) {
        return two(b, at) << 16 | two(b, at + 2);
    }

    private static int sizeOf(byte[] b, int at, int codeStart) {
        int op = b[at] & 255;
        int padded = at + 1 + (3 - (at - codeStart) % 4);
        if (op == TABLE_SWITCH) {
            return padded + 12 + 4 * (four(b, padded + 8) - four(b, padded + 4) + 1) - at;
        }
        if (op == LOOKUP_SWITCH) {
            return padded + 8 + 8 * four(b, padded + 4) - at;
        }
        if (op == WIDE) {
            return (b[at + 1] & 255) == 132 ? 6 : 4;
        }
        boolean five = op == 185 || op == 186 || op >= 200;
        boolean three = op == 17 || op == 19 || op == 20 || op == 132 || op >= 153 && op <= 168
                || op >= 178 && op <= 184 || op == 187 || op == 189 || op == 192 || op == 193 || op == 198 || op == 199;
        boolean pair = op == 16 || op == 18 || op >= 21 && op <= 25 || op >= 54 && op <= 58 || op == 169 || op == 188;
        return five ? 5 : op == 197 ? 4 : three ? 3 : pair ? 2 : 1;
    }

    private static void readCode(byte[] body, String[] texts, String method, Set<String> called) {
        int start = 8;
        int end = start + four(body, 4);
        for (int at = start; at < end; at += sizeOf(body, at, start)) {
            int op = body[at] & 255;
            rule(op != THROW, method + " throws");
            rule(op != INVOKE_DYNAMIC, method + " has a lambda or joins texts by +");
            rule(op != ENTER_MONITOR, method + " is synchronized");
            if (op >= INVOKE_FIRST && op <= INVOKE_LAST) {
                called.add(texts[two(body, at + 1)]);
            }
        }
        rule(two(body, end) == 0, method + " catches");
    }

    // ---- what calls what

    private static boolean isOwn(String method) {
        return method.startsWith("ToldTracks");
    }

    private static Set<String> reachedFrom(String method) {
        Set<String> reached = new TreeSet<>();
        List<String> open = new ArrayList<>(CALLS.getOrDefault(method, Set.of()));
        while (!open.isEmpty()) {
            String next = open.remove(open.size() - 1);
            if (isOwn(next) && reached.add(next)) {
                open.addAll(CALLS.getOrDefault(next, Set.of()));
            }
        }
        return reached;
    }

    /** How many own methods stand open at once at most, those that come back not counted. */
    private static int depthOf(String method) {
        Integer known = DEPTHS.get(method);
        if (known != null) {
            return known;
        }
        DEPTHS.put(method, 0);
        boolean back = COME_BACK.contains(method);
        int deepest = 0;
        for (String next : back ? reachedFrom(method) : CALLS.get(method)) {
            if (isOwn(next) && !(back && COME_BACK.contains(next))) {
                deepest = Math.max(deepest, depthOf(next));
            }
        }
        int depth = deepest + (back ? 0 : 1);
        DEPTHS.put(method, depth);
        return depth;
    }

    public static void main(String[] args) throws IOException {
        readClass(ToldTracks.class);
        for (Class<?> c : ToldTracks.class.getDeclaredClasses()) {
            readClass(c);
        }
        Set<String> back = new TreeSet<>();
        int deepest = 0;
        for (String method : CALLS.keySet()) {
            for (String next : CALLS.get(method)) {
                rule(isOwn(next) ? CALLS.containsKey(next) : LIBRARY.contains(next), method + " calls " + next);
            }
            if (reachedFrom(method).contains(method)) {
                back.add(method);
            }
        }
        rule(back.equals(COME_BACK), "come back to themselves: " + back);
        for (String method : CALLS.keySet()) {
            int depth = depthOf(method);
            deepest = Math.max(deepest, depth);
            rule(depth <= DEEPEST, method + " goes " + depth + " deep");
        }
        rule(CALLS.size() > 39, "only " + CALLS.size() + " methods were found");
        System.out.println(CALLS.size() + " methods, at most " + deepest + " deep, wrong " + wrong);
        if (wrong != 0) {
            System.exit(1);
        }
    }
}
