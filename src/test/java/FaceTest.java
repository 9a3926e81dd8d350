import java.lang.reflect.Constructor;
import java.lang.reflect.Field;
import java.lang.reflect.Method;
import java.lang.reflect.Modifier;
import java.util.Set;
import java.util.TreeSet;

/** The public face is the document's, whole, and nothing else can be seen from outside. */
public final class FaceTest {
    private static final Set<String> FACE = Set.of(
        "public static final int HiddenCaches.BAD_ADDRESS",
        "public static final int HiddenCaches.BAD_LENGTH",
        "public HiddenCaches(int)",
        "public int HiddenCaches.load(int)",
        "public int HiddenCaches.store(int,int)",
        "public int HiddenCaches.loadByte(int,boolean)",
        "public int HiddenCaches.storeByte(int,int)",
        "public int HiddenCaches.swap(int,int)",
        "public int HiddenCaches.addTo(int,int)",
        "public int HiddenCaches.loadReserved(int)",
        "public int HiddenCaches.storeConditional(int,int)",
        "public int HiddenCaches.copy(int,int,int)",
        "public int HiddenCaches.deviceRead(int)",
        "public int HiddenCaches.deviceWrite(int,int)",
        "public int HiddenCaches.deviceFill(int,int,int)",
        "public int HiddenCaches.hint(int,int)",
        "public int HiddenCaches.sum()",
        "public int HiddenCaches.reserved()");

    public static void main(String[] args) {
        Set<String> seen = new TreeSet<>();
        for (Field field : HiddenCaches.class.getDeclaredFields()) {
            add(seen, field.getModifiers(), field.toString());
        }
        for (Constructor<?> constructor : HiddenCaches.class.getDeclaredConstructors()) {
            add(seen, constructor.getModifiers(), constructor.toString());
        }
        for (Method method : HiddenCaches.class.getDeclaredMethods()) {
            add(seen, method.getModifiers(), method.toString());
        }
        Due.holds("the face is the document's, but it is " + seen, seen.equals(FACE));
        int modifiers = HiddenCaches.class.getModifiers();
        Due.holds("the class is public and final", modifiers == (Modifier.PUBLIC | Modifier.FINAL));
        Due.is("BAD_ADDRESS", HiddenCaches.BAD_ADDRESS, -1);
        Due.is("BAD_LENGTH", HiddenCaches.BAD_LENGTH, -2);
        Due.end();
    }

    private static void add(Set<String> seen, int modifiers, String member) {
        if (!Modifier.isPrivate(modifiers)) {
            seen.add(member);
        }
    }
}
