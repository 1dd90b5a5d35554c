import java.io.DataInputStream;
import java.io.IOException;
import java.io.InputStream;
import java.lang.reflect.Field;
import java.lang.reflect.Modifier;
import java.util.ArrayList;
import java.util.List;
import java.util.Set;
import java.util.TreeSet;

/** The rules of LANGUAGE.md that the compiled classes show: what they call, and what they hold. */
public final class LanguageTest {
    /** Of what rule 4 lists, that which the class has use for. */
    private static final Set<String> LIBRARY = Set.of("java/lang/Object.<init>", "java/lang/String.charAt",
            "java/lang/Integer.bitCount", "java/lang/Math.max", "java/lang/Math.min",
            "java/lang/System.arraycopy", "java/util/Arrays.fill");
    private static final Set<String> STATIC_TYPES = Set.of("int", "long", "boolean", "char",
            "java.lang.String", "[I", "[J", "[C", "[B");
    private static final int MOST_FIELDS = 20;

    private final Check check = new Check();

    public static void main(String[] args) throws IOException {
        LanguageTest test = new LanguageTest();
        List<Class<?>> classes = new ArrayList<>(List.of(LampYard.class.getDeclaredClasses()));
        test.check.yes("classes inside were found", classes.size() > 5);
        for (Class<?> inside : classes) {
            int modifiers = inside.getModifiers();
            test.check.yes(inside + " is static", Modifier.isStatic(modifiers));
            test.check.no(inside + " can be seen",
                    Modifier.isPublic(modifiers) || Modifier.isProtected(modifiers));
            test.check.same(inside + " has none inside", inside.getDeclaredClasses().length, 0);
        }
        classes.add(LampYard.class);
        for (Class<?> one : classes) {
            test.fields(one);
            test.calls(one);
        }
        test.check.close("LanguageTest");
    }

    /** Rules 5 and 11. */
    private void fields(Class<?> one) {
        int own = 0;
        for (Field field : one.getDeclaredFields()) {
            if (Modifier.isStatic(field.getModifiers())) {
                check.yes(field + " is a constant", Modifier.isFinal(field.getModifiers())
                        && STATIC_TYPES.contains(field.getType().getName()));
            } else {
                own++;
            }
        }
        check.yes(one + " has some twenty fields at most", own <= MOST_FIELDS);
    }

    /** Rule 4. */
    private void calls(Class<?> one) throws IOException {
        for (String call : methodsNamed(one)) {
            check.yes(one + " may call " + call, call.startsWith("LampYard") || LIBRARY.contains(call));
        }
    }

    /** All methods that a class file's table of constants names, with the class that each is of. */
    private static Set<String> methodsNamed(Class<?> one) throws IOException {
        try (InputStream bytes = one.getResourceAsStream("/" + one.getName() + ".class")) {
            DataInputStream in = new DataInputStream(bytes);
            in.readInt();
            in.readInt();
            int count = in.readUnsignedShort();
            String[] texts = new String[count];
            int[] kinds = new int[count];
            int[] firsts = new int[count];
            int[] seconds = new int[count];
            for (int i = 1; i < count; i++) {
                kinds[i] = in.readUnsignedByte();
                switch (kinds[i]) {
                    case 1 -> texts[i] = in.readUTF();
                    case 3, 4 -> in.readInt();
                    case 5, 6 -> {
                        in.readLong();
                        i++;
                    }
                    case 7, 8, 16, 19, 20 -> firsts[i] = in.readUnsignedShort();
                    case 9, 10, 11, 12, 17, 18 -> {
                        firsts[i] = in.readUnsignedShort();
                        seconds[i] = in.readUnsignedShort();
                    }
                    case 15 -> in.skipBytes(3);
                    default -> throw new IOException("constant of kind " + kinds[i]);
                }
            }
            Set<String> methods = new TreeSet<>();
            for (int i = 1; i < count; i++) {
                if (kinds[i] == 10 || kinds[i] == 11) {
                    methods.add(texts[firsts[firsts[i]]] + "." + texts[firsts[seconds[i]]]);
                } else if (kinds[i] == 15 || kinds[i] == 17 || kinds[i] == 18) {
                    methods.add("made while it runs");
                }
            }
            return methods;
        }
    }
}
