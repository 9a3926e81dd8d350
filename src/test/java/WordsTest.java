/** Promises 2, 3, 6, 7, 11 and 12: words read and written by the processor and the device. */
public final class WordsTest {
    private static final int[] VALUES = {0, 1, -1, -2, 255, 256, 0x12345678, 0x80000000, 0x7fffffff};

    public static void main(String[] args) {
        for (int address : new int[] {0, 1, 63, 64, 128, 254, 255}) {
            for (int value : VALUES) {
                bothSeeBoth(address, value);
                swapAnswersTheOld(address, value);
                addAnswersTheNew(address, value);
            }
        }
        onlyTheWordChanges();
        addWraps();
        writesAlternate();
        Due.end();
    }

    private static void bothSeeBoth(int address, int value) {
        HiddenCaches x = Due.filled();
        String at = "(" + address + ", " + value + ")";
        Due.is("load before store" + at, x.load(address), Due.valueOf(address));
        Due.is("store" + at, x.store(address, value), 0);
        Due.is("load after store" + at, x.load(address), value);
        Due.is("deviceRead after store" + at, x.deviceRead(address), value);
        Due.is("deviceWrite" + at, x.deviceWrite(address, ~value), 0);
        Due.is("load after deviceWrite" + at, x.load(address), ~value);
        Due.is("deviceRead after deviceWrite" + at, x.deviceRead(address), ~value);
    }

    private static void swapAnswersTheOld(int address, int value) {
        HiddenCaches x = Due.filled();
        String call = "swap(" + address + ", " + value + ")";
        Due.is(call, x.swap(address, value), Due.valueOf(address));
        Due.is("load after " + call, x.load(address), value);
        Due.is("swap after " + call, x.swap(address, 7), value);
        Due.is("deviceRead after two swaps", x.deviceRead(address), 7);
        x.deviceWrite(address, value);
        Due.is("swap after deviceWrite", x.swap(address, 8), value);
    }

    private static void addAnswersTheNew(int address, int value) {
        HiddenCaches x = Due.filled();
        int want = Due.valueOf(address) + value;
        String call = "addTo(" + address + ", " + value + ")";
        Due.is(call, x.addTo(address, value), want);
        Due.is("load after " + call, x.load(address), want);
        Due.is("deviceRead after " + call, x.deviceRead(address), want);
        x.deviceWrite(address, 5);
        Due.is("addTo after deviceWrite", x.addTo(address, value), value + 5);
    }

    private static void onlyTheWordChanges() {
        HiddenCaches x = Due.filled();
        x.store(100, 1);
        Due.restIsAsFilled("store(100, 1)", x, 100, 100);
        x = Due.filled();
        x.deviceWrite(255, 1);
        Due.restIsAsFilled("deviceWrite(255, 1)", x, 255, 255);
        x = Due.filled();
        x.swap(0, 1);
        Due.restIsAsFilled("swap(0, 1)", x, 0, 0);
        x = Due.filled();
        x.addTo(64, 1);
        Due.restIsAsFilled("addTo(64, 1)", x, 64, 64);
        x = Due.filled();
        for (int a = 0; a < 256; a += 3) {
            Due.is("deviceRead(" + a + ")", x.deviceRead(a), Due.valueOf(a));
            Due.is("load(" + a + ")", x.load(a), Due.valueOf(a));
        }
        Due.allIsAsFilled("deviceRead and load", x);
    }

    private static void addWraps() {
        HiddenCaches x = new HiddenCaches(0);
        x.store(9, Integer.MAX_VALUE);
        Due.is("addTo(9, 1) to the greatest", x.addTo(9, 1), Integer.MIN_VALUE);
        Due.is("addTo(9, -1) to the least", x.addTo(9, -1), Integer.MAX_VALUE);
        Due.is("addTo(9, least)", x.addTo(9, Integer.MIN_VALUE), -1);
        Due.is("addTo(9, least) to -1", x.addTo(9, Integer.MIN_VALUE), Integer.MAX_VALUE);
    }

    /** Words that caches of any usual size would lay upon each other. */
    private static void writesAlternate() {
        HiddenCaches x = new HiddenCaches(1);
        for (int a = 0; a < 256; a += 16) {
            x.store(a, a + 1);
            x.deviceWrite(a, a + 2);
            x.hint(a, a / 16);
        }
        for (int a = 0; a < 256; a += 16) {
            Due.is("load(" + a + ") after deviceWrite", x.load(a), a + 2);
        }
    }
}
