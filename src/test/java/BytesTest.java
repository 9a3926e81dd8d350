/** Promises 4 and 5: bytes of words. */
public final class BytesTest {
    private static final int[] VALUES = {0, 1, 127, 128, 200, 255, 256, 268, 511, -1, -128, -129, -256,
        0x12345680, Integer.MAX_VALUE, Integer.MIN_VALUE};

    public static void main(String[] args) {
        theBytesOfAWord();
        for (int word : new int[] {0, 1, 77, 255}) {
            for (int b = 0; b < 4; b++) {
                for (int value : VALUES) {
                    oneByteIsWritten(word, b, value);
                }
            }
        }
        bytesOfBothSides();
        Due.end();
    }

    private static void theBytesOfAWord() {
        HiddenCaches x = new HiddenCaches(0);
        for (int word : new int[] {0, 5, 255}) {
            x.store(word, 0x80ff7f01);
            bytesAre(x, word, new int[] {0x01, 0x7f, 0xff, 0x80}, new int[] {1, 127, -1, -128});
        }
    }

    private static void bytesAre(HiddenCaches x, int word, int[] unsigned, int[] signed) {
        for (int b = 0; b < 4; b++) {
            int place = 4 * word + b;
            Due.is("loadByte(" + place + ", false)", x.loadByte(place, false), unsigned[b]);
            Due.is("loadByte(" + place + ", true)", x.loadByte(place, true), signed[b]);
        }
    }

    private static void oneByteIsWritten(int word, int b, int value) {
        HiddenCaches x = Due.filled();
        int place = 4 * word + b;
        String call = "storeByte(" + place + ", " + value + ")";
        int low = Math.floorMod(value, 256);
        int keep = ~(255 << 8 * b);
        int want = Due.valueOf(word) & keep | low << 8 * b;
        Due.is(call, x.storeByte(place, value), 0);
        Due.is("loadByte unsigned after " + call, x.loadByte(place, false), low);
        Due.is("loadByte signed after " + call, x.loadByte(place, true), low > 127 ? low - 256 : low);
        Due.is("load after " + call, x.load(word), want);
        Due.is("deviceRead after " + call, x.deviceRead(word), want);
        if (value == 200) {
            Due.restIsAsFilled(call, x, word, word);
        }
    }

    private static void bytesOfBothSides() {
        HiddenCaches x = new HiddenCaches(2);
        x.deviceWrite(10, 0x44332211);
        x.storeByte(41, 0xaa);
        Due.is("deviceRead(10)", x.deviceRead(10), 0x4433aa11);
        x.deviceWrite(10, 0x0badf00d);
        Due.is("loadByte(41, false) after deviceWrite", x.loadByte(41, false), 0xf0);
        Due.is("loadByte(41, true) after deviceWrite", x.loadByte(41, true), 0xf0 - 256);
        x.storeByte(43, 0xff);
        x.storeByte(40, 0);
        Due.is("load(10)", x.load(10), 0xffadf000);
    }
}
