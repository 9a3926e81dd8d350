import java.util.function.IntBinaryOperator;

/** The rule of all calls: a bad address is refused, and a refused call changes nothing. */
public final class BadAddressTest {
    private static final int[] BAD_WORDS = {-1, -2, -256, 256, 257, 511, 1023, 1024,
        Integer.MIN_VALUE, Integer.MAX_VALUE};
    private static final int[] BAD_BYTES = {-1, -3, -4, -5, 1024, 1025, 4096,
        Integer.MIN_VALUE, Integer.MAX_VALUE};

    public static void main(String[] args) {
        HiddenCaches x = Due.filled();
        x.loadReserved(0);
        words("load", (a, v) -> x.load(a));
        words("store", x::store);
        words("swap", x::swap);
        words("addTo", x::addTo);
        words("loadReserved", (a, v) -> x.loadReserved(a));
        words("storeConditional", x::storeConditional);
        words("deviceRead", (a, v) -> x.deviceRead(a));
        words("deviceWrite", x::deviceWrite);
        words("hint", x::hint);
        for (int bad : BAD_BYTES) {
            Due.is("loadByte(" + bad + ", false)", x.loadByte(bad, false), HiddenCaches.BAD_ADDRESS);
            Due.is("loadByte(" + bad + ", true)", x.loadByte(bad, true), HiddenCaches.BAD_ADDRESS);
            Due.is("storeByte(" + bad + ", 1)", x.storeByte(bad, 1), HiddenCaches.BAD_ADDRESS);
        }
        Due.is("reserved() after refused calls", x.reserved(), 0);
        Due.allIsAsFilled("refused calls", x);
        valuesMayEqualTheAnswers();
        Due.end();
    }

    private static void words(String name, IntBinaryOperator call) {
        for (int bad : BAD_WORDS) {
            String text = name + " at " + bad;
            Due.is(text, call.applyAsInt(bad, 1), HiddenCaches.BAD_ADDRESS);
        }
    }

    private static void valuesMayEqualTheAnswers() {
        HiddenCaches x = new HiddenCaches(0);
        Due.is("store(0, -1)", x.store(0, -1), 0);
        Due.is("load(0)", x.load(0), -1);
        Due.is("swap(0, -2)", x.swap(0, -2), -1);
        Due.is("deviceRead(0)", x.deviceRead(0), -2);
        Due.is("addTo(0, 1)", x.addTo(0, 1), -1);
        Due.is("loadReserved(0)", x.loadReserved(0), -1);
        Due.is("reserved()", x.reserved(), 0);
        Due.is("storeConditional(0, -2)", x.storeConditional(0, -2), 1);
        Due.is("loadByte(3, true)", x.loadByte(3, true), -1);
        Due.is("deviceFill(0, 2, -1)", x.deviceFill(0, 2, -1), 2);
    }
}
