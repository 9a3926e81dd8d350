import java.lang.reflect.Constructor;
import java.lang.reflect.Field;
import java.lang.reflect.Method;
import java.lang.reflect.Modifier;
import java.util.Set;
import java.util.TreeSet;

/** The public face is the document's, whole, and nothing else can be seen from outside. */
public final class FaceTest {
    private static final Set<String> FACE = Set.of(
        "public static final int HiddenCaches.BAD_ADDRESS",
        "public static final int HiddenCaches.BAD_LENGTH",
        "public HiddenCaches(int)",
        "public int HiddenCaches.load(int)",
        "public int HiddenCaches.store(int,int)",
        "public int HiddenCaches.loadByte(int,boolean)",
        "public int HiddenCaches.storeByte(int,int)",
        "public int HiddenCaches.swap(int,int)",
        "public int HiddenCaches.addTo(int,int)",
        "public int HiddenCaches.loadReserved(int)",
        "public int HiddenCaches.storeConditional(int,int)",
        "public int HiddenCaches.copy(int,int,int)",
        "public int HiddenCaches.deviceRead(int)",
        "public int HiddenCaches.deviceWrite(int,int)",
        "public int HiddenCaches.deviceFill(int,int,int)",
        "public int HiddenCaches.hint(int,int)",
        "public int HiddenCaches.sum()",
        "public int HiddenCaches.reserved()");

    private static final Set<Class<?>> FIELD_TYPES = Set.of(int.class, long.class, short.class, byte.class,
        char.class, boolean.class, int[].class, long[].class, short[].class, byte[].class, char[].class,
        boolean[].class);

    public static void main(String[] args) {
        Due.sentence("The public face", FaceTest::theFaceIsTheDocuments);
        Due.sentence("LANGUAGE.md 1: No private method bears the name of a public one. No nested class",
            FaceTest::namesAreApart);
        Due.sentence("LANGUAGE.md 2, 5: types of fields; static fields are constants of int or long alone",
            FaceTest::fieldsAreNumbers);
        Due.end();
    }

    private static void theFaceIsTheDocuments() {
        Set<String> seen = new TreeSet<>();
        for (Field field : HiddenCaches.class.getDeclaredFields()) {
            add(seen, field.getModifiers(), field.toString());
        }
        for (Constructor<?> constructor : HiddenCaches.class.getDeclaredConstructors()) {
            add(seen, constructor.getModifiers(), constructor.toString());
        }
        for (Method method : HiddenCaches.class.getDeclaredMethods()) {
            add(seen, method.getModifiers(), method.toString());
        }
        Due.holds("the face is the document's, but it is " + seen, seen.equals(FACE));
        int modifiers = HiddenCaches.class.getModifiers();
        Due.holds("the class is public and final", modifiers == (Modifier.PUBLIC | Modifier.FINAL));
        Due.is("BAD_ADDRESS", HiddenCaches.BAD_ADDRESS, -1);
        Due.is("BAD_LENGTH", HiddenCaches.BAD_LENGTH, -2);
    }

    private static void namesAreApart() {
        for (Method method : HiddenCaches.class.getDeclaredMethods()) {
            boolean apart = !Modifier.isPrivate(method.getModifiers()) || !isInTheFace(method.getName());
            Due.holds(method + " does not bear the name of a public method", apart);
        }
        Due.is("count of nested classes", HiddenCaches.class.getDeclaredClasses().length, 0);
    }

    private static boolean isInTheFace(String name) {
        for (Method method : HiddenCaches.class.getMethods()) {
            if (method.getName().equals(name)) {
                return true;
            }
        }
        return false;
    }

    private static void fieldsAreNumbers() {
        for (Field field : HiddenCaches.class.getDeclaredFields()) {
            Class<?> type = field.getType();
            Due.holds(field + " has a type of rule 2", FIELD_TYPES.contains(type));
            if (Modifier.isStatic(field.getModifiers())) {
                Due.holds(field + " is final", Modifier.isFinal(field.getModifiers()));
                Due.holds(field + " is an int or a long", type == int.class || type == long.class);
            }
        }
    }

    private static void add(Set<String> seen, int modifiers, String member) {
        if (!Modifier.isPrivate(modifiers)) {
            seen.add(member);
        }
    }
}
