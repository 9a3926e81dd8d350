/** Promises 14 and 15: calls that change nothing. */
public final class HintAndSumTest {
    private static final int[] HOWS = {0, 1, 2, 3, 4, 5, 100, -1, Integer.MIN_VALUE, Integer.MAX_VALUE};

    public static void main(String[] args) {
        hintsChangeNothing();
        hintsKeepLateWrites();
        sums();
        Due.end();
    }

    private static void hintsChangeNothing() {
        HiddenCaches x = Due.filled();
        x.loadReserved(64);
        int sum = x.sum();
        for (int how : HOWS) {
            for (int a : new int[] {0, 1, 64, 255}) {
                Due.is("hint(" + a + ", " + how + ")", x.hint(a, how), 0);
            }
            for (int a : new int[] {-1, 256, Integer.MIN_VALUE, Integer.MAX_VALUE}) {
                Due.is("hint(" + a + ", " + how + ")", x.hint(a, how), HiddenCaches.BAD_ADDRESS);
            }
        }
        Due.is("reserved() after hints", x.reserved(), 64);
        Due.is("sum() after hints", x.sum(), sum);
        Due.allIsAsFilled("hints", x);
    }

    private static void hintsKeepLateWrites() {
        for (int how : HOWS) {
            HiddenCaches x = new HiddenCaches(0);
            x.hint(30, how);
            x.deviceWrite(30, 3);
            Due.is("load(30) after hint " + how + " and deviceWrite", x.load(30), 3);
            x.store(30, 4);
            x.hint(30, how);
            Due.is("deviceRead(30) after store and hint " + how, x.deviceRead(30), 4);
            Due.is("load(30) after store and hint " + how, x.load(30), 4);
        }
    }

    private static void sums() {
        HiddenCaches x = new HiddenCaches(0);
        x.store(0, 1);
        x.deviceWrite(255, 20);
        x.storeByte(4 * 100 + 1, 2);
        Due.is("sum()", x.sum(), 1 + 20 + 512);
        Due.is("sum() again", x.sum(), 1 + 20 + 512);
        x.store(7, Integer.MAX_VALUE);
        Due.is("sum() that wraps", x.sum(), Integer.MIN_VALUE + 532);
        x.store(8, Integer.MAX_VALUE);
        Due.is("sum() that wraps on", x.sum(), 531);
        HiddenCaches all = Due.filled();
        all.loadReserved(5);
        int want = 0;
        for (int a = 0; a < 256; a++) {
            want += Due.valueOf(a);
        }
        Due.is("sum() of all", all.sum(), want);
        Due.is("reserved() after sum()", all.reserved(), 5);
        Due.allIsAsFilled("sum()", all);
    }
}
