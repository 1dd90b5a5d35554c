import java.io.ByteArrayInputStream;
import java.io.DataInputStream;
import java.io.IOException;
import java.io.InputStream;
import java.util.HashMap;
import java.util.HashSet;
import java.util.Map;
import java.util.Set;
import java.util.TreeMap;
import java.util.TreeSet;

/** Rules 6, 8 and 11 of LANGUAGE.md as the compiled code shows them: who calls whom, and how deep it goes. */
public final class DepthTest {
    private static final int MOST_DEEP = 8;
    /** The one group of methods that call one another: what reads an e, which carries how deep it is. */
    private static final Set<String> READING = Set.of("LampYard$Reader.readAny(I)V", "LampYard$Reader.readBoth(I)V",
            "LampYard$Reader.readOne(I)V", "LampYard$Reader.readSum(I)V", "LampYard$Reader.readTerm(I)V",
            "LampYard$Reader.readUnit(I)V");
    /** How many bytes stand behind each code from 0 on; 9 where it is not so simple. */
    private static final String BEHIND = "0000000000000000" + "1212211111000000" + "0000000000000000" + "0000001111100000"
            + "0000000000000000" + "0000000000000000" + "0000000000000000" + "0000000000000000" + "0000200000000000"
            + "0000000002222222" + "2222222221990000" + "0022222224421200" + "22009" + "32244";

    private final Check check = new Check();
    private final Map<String, Set<String>> calls = new TreeMap<>();
    private final Map<String, Integer> depths = new HashMap<>();

    public static void main(String[] args) throws IOException {
        DepthTest test = new DepthTest();
        test.read(LampYard.class);
        for (Class<?> inside : LampYard.class.getDeclaredClasses()) {
            test.read(inside);
        }
        test.check.yes("methods were found", test.calls.size() > 100);
        test.check.yes("calls were found",
                test.calls.get("LampYard.right()I").contains("LampYard.surveyOfPlan()LLampYard$Survey;"));
        test.recursion();
        test.depth();
        test.check.close("DepthTest");
    }

    private void recursion() {
        Set<String> found = new TreeSet<>();
        for (String method : calls.keySet()) {
            if (reached(method).contains(method)) {
                found.add(method);
            }
        }
        check.same("methods that can come to call themselves", found.toString(), new TreeSet<>(READING).toString());
    }

    private void depth() {
        for (String method : calls.keySet()) {
            if (method.startsWith("LampYard.")) {
                int deep = depthOf(method);
                check.yes(method + " goes " + deep + " deep, at most " + MOST_DEEP, deep <= MOST_DEEP);
            }
        }
    }

    private Set<String> reached(String from) {
        Set<String> reached = new HashSet<>();
        Set<String> edge = new HashSet<>(Set.of(from));
        while (!edge.isEmpty()) {
            Set<String> then = new HashSet<>();
            for (String method : edge) {
                for (String called : calls.getOrDefault(method, Set.of())) {
                    if (reached.add(called)) {
                        then.add(called);
                    }
                }
            }
            edge = then;
        }
        return reached;
    }

    /** Methods on the longest chain from here on, this one too, the group of those that read an e as one. */
    private int depthOf(String method) {
        Integer known = depths.get(method);
        if (known != null) {
            return known;
        }
        int below = 0;
        Set<String> called = new HashSet<>(calls.getOrDefault(method, Set.of()));
        if (READING.contains(method)) {
            READING.forEach(one -> called.addAll(calls.get(one)));
            called.removeAll(READING);
        }
        for (String one : called) {
            below = Math.max(below, depthOf(one));
        }
        depths.put(method, below + 1);
        return below + 1;
    }

    // ---- class files

    private void read(Class<?> one) throws IOException {
        try (InputStream bytes = one.getResourceAsStream("/" + one.getName() + ".class")) {
            DataInputStream in = new DataInputStream(bytes);
            in.readLong();
            String[] names = constants(in);
            in.skipBytes(6);
            in.skipBytes(2 * in.readUnsignedShort());
            int fields = in.readUnsignedShort();
            for (int i = 0; i < fields; i++) {
                in.skipBytes(6);
                attributes(in, names, "");
            }
            int methods = in.readUnsignedShort();
            for (int i = 0; i < methods; i++) {
                in.readUnsignedShort();
                String method = one.getName() + "." + names[in.readUnsignedShort()] + names[in.readUnsignedShort()];
                calls.put(method, new TreeSet<>());
                attributes(in, names, method);
            }
        }
    }

    /** Texts as they are, and each method as its class, its name and what it takes. */
    private static String[] constants(DataInputStream in) throws IOException {
        int count = in.readUnsignedShort();
        String[] names = new String[count];
        int[] kinds = new int[count];
        int[] firsts = new int[count];
        int[] seconds = new int[count];
        for (int i = 1; i < count; i++) {
            kinds[i] = in.readUnsignedByte();
            switch (kinds[i]) {
                case 1 -> names[i] = in.readUTF();
                case 3, 4 -> in.readInt();
                case 5, 6 -> {
                    in.readLong();
                    i++;
                }
                case 7, 8 -> firsts[i] = in.readUnsignedShort();
                case 9, 10, 11, 12 -> {
                    firsts[i] = in.readUnsignedShort();
                    seconds[i] = in.readUnsignedShort();
                }
                default -> throw new IOException("constant of kind " + kinds[i]);
            }
        }
        for (int i = 1; i < count; i++) {
            if (kinds[i] == 10 || kinds[i] == 11) {
                names[i] = names[firsts[firsts[i]]] + "." + names[firsts[seconds[i]]] + names[seconds[seconds[i]]];
            }
        }
        return names;
    }

    private void attributes(DataInputStream in, String[] names, String method) throws IOException {
        int count = in.readUnsignedShort();
        for (int i = 0; i < count; i++) {
            String name = names[in.readUnsignedShort()];
            byte[] content = in.readNBytes(in.readInt());
            if (name.equals("Code")) {
                code(content, names, method);
            }
        }
    }

    private void code(byte[] content, String[] names, String method) throws IOException {
        DataInputStream in = new DataInputStream(new ByteArrayInputStream(content));
        in.readInt();
        byte[] code = in.readNBytes(in.readInt());
        check.same(method + " catches nothing", in.readUnsignedShort(), 0);
        int at = 0;
        while (at < code.length) {
            int op = code[at] & 255;
            check.no(method + " throws, locks, or calls by what is made while it runs",
                    op == 186 || op == 191 || op == 194 || op == 195);
            if (op >= 182 && op <= 185) {
                calls.get(method).add(names[(code[at + 1] & 255) << 8 | code[at + 2] & 255]);
            }
            at = behind(code, at, op);
        }
        check.same(method + " was read to its end", at, code.length);
    }

    private static int behind(byte[] code, int at, int op) {
        int table = (at & ~3) + 4;
        if (op == 170) {
            return table + 12 + 4 * (number(code, table + 8) - number(code, table + 4) + 1);
        }
        if (op == 171) {
            return table + 8 + 8 * number(code, table + 4);
        }
        if (op == 196) {
            return at + ((code[at + 1] & 255) == 132 ? 6 : 4);
        }
        return at + 1 + BEHIND.charAt(op) - '0';
    }

    private static int number(byte[] code, int at) {
        int number = 0;
        for (int i = at; i < at + 4; i++) {
            number = number << 8 | code[i] & 255;
        }
        return number;
    }
}
