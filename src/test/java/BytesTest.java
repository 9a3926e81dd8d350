/** Promises 4 and 5: bytes of words. */
public final class BytesTest {
    private static final int[] PLACES = {0, 1, 2, 3, 4, 7, 308, 309, 310, 311, 1020, 1021, 1022, 1023};
    private static final int[] VALUES = {0, 1, 126, 127, 128, 129, 200, 254, 255, 256, 257, 268, 511, -1, -2,
        -127, -128, -129, -255, -256, -257, 0x12345680, Integer.MAX_VALUE, Integer.MIN_VALUE};

    private interface Test {
        void on(int place);
    }

    public static void main(String[] args) {
        Due.sentence("Promise 4: The processor reads a byte: 0 to 255", () -> atEveryEdge(BytesTest::unsigned));
        Due.sentence("Promise 4: or, if 'signed', -128 to 127", () -> atEveryEdge(BytesTest::signed));
        Due.sentence("Promise 5: The processor writes a byte (value & 255). Answers 0",
            () -> atEveryEdge(BytesTest::oneByteIsWritten));
        Due.sentence("Promise 5: this writes to its word", () -> atEveryEdge(BytesTest::itsWordIsWritten));
        Due.sentence("(bytes of words that the device writes)", BytesTest::bytesOfBothSides);
        Due.end();
    }

    private static void atEveryEdge(Test test) {
        for (int place : PLACES) {
            test.on(place);
        }
    }

    /** Every byte there is, once among bytes that are 0 and once among bytes that are 255. */
    private static void unsigned(int place) {
        for (int others : new int[] {0, -1}) {
            HiddenCaches x = new HiddenCaches(0);
            for (int value = 0; value <= 255; value++) {
                x.store(place / 4, wordWith(others, place % 4, value));
                Due.is("loadByte(" + place + ", false) of " + value, x.loadByte(place, false), value);
            }
        }
    }

    private static void signed(int place) {
        for (int others : new int[] {0, -1}) {
            HiddenCaches x = new HiddenCaches(0);
            for (int value = -128; value <= 127; value++) {
                x.store(place / 4, wordWith(others, place % 4, value));
                Due.is("loadByte(" + place + ", true) of " + value, x.loadByte(place, true), value);
            }
        }
    }

    private static int wordWith(int others, int b, int value) {
        return others & ~(255 << 8 * b) | Math.floorMod(value, 256) << 8 * b;
    }

    private static void oneByteIsWritten(int place) {
        for (int value : VALUES) {
            HiddenCaches x = Due.filled();
            int word = place / 4;
            int low = Math.floorMod(value, 256);
            int want = wordWith(Due.valueOf(word), place % 4, value);
            String call = "storeByte(" + place + ", " + value + ")";
            Due.is(call, x.storeByte(place, value), 0);
            Due.is("loadByte unsigned after " + call, x.loadByte(place, false), low);
            Due.is("loadByte signed after " + call, x.loadByte(place, true), low > 127 ? low - 256 : low);
            Due.is("load after " + call, x.load(word), want);
            Due.is("deviceRead after " + call, x.deviceRead(word), want);
            Due.restIsAsFilled(call, x, word, word);
        }
    }

    private static void itsWordIsWritten(int place) {
        int word = place / 4;
        for (int reserved : new int[] {word, word ^ 1, 100}) {
            HiddenCaches x = Due.filledAndReserved(reserved);
            int same = x.loadByte(place, false);
            x.storeByte(place, same);
            int want = reserved == word ? -1 : reserved;
            Due.is("reserved() after storeByte(" + place + ", the same), " + reserved + " reserved",
                x.reserved(), want);
        }
    }

    private static void bytesOfBothSides() {
        HiddenCaches x = new HiddenCaches(2);
        x.deviceWrite(10, 0x44332211);
        x.storeByte(41, 0xaa);
        Due.is("deviceRead(10)", x.deviceRead(10), 0x4433aa11);
        x.deviceWrite(10, 0x0badf00d);
        Due.is("loadByte(41, false) after deviceWrite", x.loadByte(41, false), 0xf0);
        Due.is("loadByte(41, true) after deviceWrite", x.loadByte(41, true), 0xf0 - 256);
        x.storeByte(43, 0xff);
        x.storeByte(40, 0);
        Due.is("load(10)", x.load(10), 0xffadf000);
    }
}
