import java.io.DataInputStream;
import java.io.IOException;
import java.lang.reflect.Field;
import java.lang.reflect.Method;
import java.lang.reflect.Modifier;
import java.util.Set;
import java.util.TreeSet;

/** The rules of LANGUAGE.md that the compiled class shows; for its public members see PublicFaceTest. */
public final class LanguageTest {
    private static final Class<?> MAIN = MultipathStream.class;
    private static final Set<Class<?>> TYPES = Set.of(int.class, long.class, short.class, byte.class, char.class,
        boolean.class);

    // Kinds of entries in the constant pool of a class file.
    private static final int UTF8 = 1;
    private static final int LONG = 5;
    private static final int DOUBLE = 6;
    private static final int CLASS = 7;
    private static final int STRING = 8;
    private static final int METHOD_HANDLE = 15;
    private static final int METHOD_TYPE = 16;
    private static final int DYNAMIC = 18;

    private static final Set<Integer> kinds = new TreeSet<>();
    private static final Set<String> texts = new TreeSet<>();
    private static final Set<String> classes = new TreeSet<>();

    public static void main(String[] args) throws IOException {
        readConstantPool();
        Check.sentence("1. One class: the one of the document, public and final", LanguageTest::oneClass);
        Check.sentence("1. No private method bears the name of a public one.", LanguageTest::noSharedName);
        Check.sentence("2. Types: int, long, short, byte, char, boolean, and one-dimensional arrays of these.",
            LanguageTest::types);
        Check.sentence("3. No class of the Java library", LanguageTest::noLibrary);
        Check.sentence("4. no method assigns to an array field", LanguageTest::arraysAreFinal);
        Check.sentence("5. Static fields are compile-time constants of int or long alone.", LanguageTest::constants);
        Check.sentence("5. No static array, no static initialiser.", LanguageTest::noStaticInitialiser);
        Check.sentence("6. No [..] lambda, method reference", LanguageTest::noLambda);
        Check.sentence("10. A method takes at most seven parameters", LanguageTest::parameters);
        Check.sentence("10. at most some forty fields beside its constants", LanguageTest::fields);
        Check.end();
    }

    private static void oneClass() {
        Check.due("modifiers", Modifier.toString(MAIN.getModifiers()), "public final");
        Check.due("package", MAIN.getPackageName(), "");
        Check.due("the class above", MAIN.getSuperclass(), Object.class);
        Check.due("interfaces", MAIN.getInterfaces().length, 0);
        Check.due("nested classes", MAIN.getDeclaredClasses().length, 0);
    }

    private static void noSharedName() {
        Set<String> publicNames = new TreeSet<>();
        for (Method method : MAIN.getDeclaredMethods()) {
            if (Modifier.isPublic(method.getModifiers())) {
                publicNames.add(method.getName());
            }
        }
        for (Method method : MAIN.getDeclaredMethods()) {
            if (Modifier.isPrivate(method.getModifiers())) {
                Check.holds(method.getName(), !publicNames.contains(method.getName()));
            }
        }
    }

    private static boolean lawful(Class<?> type) {
        return TYPES.contains(type.isArray() ? type.getComponentType() : type);
    }

    private static void types() {
        for (Field field : MAIN.getDeclaredFields()) {
            Check.holds("field " + field.getName(), lawful(field.getType()));
        }
        for (Method method : MAIN.getDeclaredMethods()) {
            Class<?> answer = method.getReturnType();
            Check.holds("the answer of " + method.getName(), answer == void.class || TYPES.contains(answer));
            for (Class<?> type : method.getParameterTypes()) {
                Check.holds("a parameter of " + method.getName(), lawful(type));
            }
        }
    }

    private static void noLibrary() {
        Check.due("the classes spoken of", classes, Set.of("MultipathStream", "java/lang/Object"));
        Check.holds("no text", !kinds.contains(STRING));
    }

    private static void arraysAreFinal() {
        for (Field field : MAIN.getDeclaredFields()) {
            Check.holds(field.getName(), !field.getType().isArray() || Modifier.isFinal(field.getModifiers()));
        }
    }

    private static void constants() {
        for (Field field : MAIN.getDeclaredFields()) {
            if (Modifier.isStatic(field.getModifiers())) {
                Check.holds(field.getName() + " is final", Modifier.isFinal(field.getModifiers()));
                Check.holds("type of " + field.getName(), field.getType() == int.class || field.getType() == long.class);
            }
        }
    }

    private static void noStaticInitialiser() {
        Check.holds("none", !texts.contains("<clinit>"));
    }

    private static void noLambda() {
        Check.holds("none", !kinds.contains(METHOD_HANDLE) && !kinds.contains(DYNAMIC));
    }

    private static void parameters() {
        for (Method method : MAIN.getDeclaredMethods()) {
            Check.holds(method.getName(), method.getParameterCount() <= 7);
        }
    }

    private static void fields() {
        int count = 0;
        for (Field field : MAIN.getDeclaredFields()) {
            count += Modifier.isStatic(field.getModifiers()) ? 0 : 1;
        }
        Check.holds(count + " fields", count <= 40);
    }

    private static void readConstantPool() throws IOException {
        try (DataInputStream in = new DataInputStream(MAIN.getResourceAsStream("MultipathStream.class"))) {
            in.readInt();
            in.readInt();
            int size = in.readUnsignedShort();
            String[] textAt = new String[size];
            int[] nameOfClass = new int[size];
            for (int k = 1; k < size; k++) {
                int kind = in.readUnsignedByte();
                kinds.add(kind);
                if (kind == UTF8) {
                    textAt[k] = in.readUTF();
                    texts.add(textAt[k]);
                } else if (kind == CLASS) {
                    nameOfClass[k] = in.readUnsignedShort();
                } else {
                    in.skipBytes(lengthOf(kind));
                }
                // A long or a double takes two places.
                k += kind == LONG || kind == DOUBLE ? 1 : 0;
            }
            for (int name : nameOfClass) {
                if (name > 0 && !isArrayOfNumbers(textAt[name])) {
                    classes.add(textAt[name]);
                }
            }
        }
    }

    private static boolean isArrayOfNumbers(String name) {
        return name.length() == 2 && name.charAt(0) == '[';
    }

    private static int lengthOf(int kind) {
        switch (kind) {
            case LONG:
            case DOUBLE: return 8;
            case METHOD_HANDLE: return 3;
            case STRING:
            case METHOD_TYPE: return 2;
            default: return 4;
        }
    }
}
