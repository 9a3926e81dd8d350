/** Promise 13: fills by the device, with every edge of the arguments. */
public final class FillTest {
    public static void main(String[] args) {
        for (int n : new int[] {0, 1, 2, 33, 63, 64}) {
            fills(0, n, 5);
            fills(77, n, -1);
            fills(256 - Math.max(n, 1), n, Integer.MIN_VALUE);
        }
        badAddresses();
        badLengths();
        Due.end();
    }

    private static void fills(int address, int n, int value) {
        HiddenCaches x = Due.filled();
        String call = "deviceFill(" + address + ", " + n + ", " + value + ")";
        Due.is(call, x.deviceFill(address, n, value), n);
        for (int a = address; a < address + n; a++) {
            Due.is("load(" + a + ") after " + call, x.load(a), value);
            Due.is("deviceRead(" + a + ") after " + call, x.deviceRead(a), value);
        }
        Due.restIsAsFilled(call, x, address, address + n - 1);
    }

    private static void badAddresses() {
        HiddenCaches x = Due.filled();
        for (int bad : new int[] {-1, -64, 256, 257, Integer.MIN_VALUE, Integer.MAX_VALUE}) {
            for (int n : new int[] {0, 1, 64, 65, -1, Integer.MIN_VALUE, Integer.MAX_VALUE}) {
                Due.is("deviceFill(" + bad + ", " + n + ", 1)", x.deviceFill(bad, n, 1), HiddenCaches.BAD_ADDRESS);
            }
        }
        Due.allIsAsFilled("refused fills", x);
    }

    private static void badLengths() {
        HiddenCaches x = Due.filled();
        for (int n : new int[] {-1, -64, 65, 256, Integer.MIN_VALUE, Integer.MAX_VALUE}) {
            Due.is("deviceFill(0, " + n + ", 1)", x.deviceFill(0, n, 1), HiddenCaches.BAD_LENGTH);
            Due.is("deviceFill(255, " + n + ", 1)", x.deviceFill(255, n, 1), HiddenCaches.BAD_LENGTH);
        }
        for (int n = 2; n <= 64; n++) {
            Due.is("deviceFill beyond the end", x.deviceFill(257 - n, n, 1), HiddenCaches.BAD_LENGTH);
        }
        Due.allIsAsFilled("refused fills", x);
    }
}
