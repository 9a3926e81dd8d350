/** Promise 13: fills by the device. */
public final class FillTest {
    public static void main(String[] args) {
        Due.sentence("Promise 13: The device writes a value to n words from an address on", FillTest::fills);
        Due.sentence("Promise 13: BAD_ADDRESS", FillTest::badAddresses);
        Due.sentence("Promise 13: n not in 0 to 64: BAD_LENGTH", FillTest::badLengths);
        Due.sentence("Promise 13: one of the words would lie beyond 255: BAD_LENGTH",
            FillTest::beyondTheEnd);
        Due.sentence("Promise 13: Else answers n", FillTest::elseAnswersN);
        Due.sentence("Promise 13: (n of 0 writes to no word)", FillTest::fillsOfNone);
        Due.end();
    }

    private static void fills() {
        for (int n : new int[] {0, 1, 2, 32, 33, 63, 64}) {
            for (int value : Due.EDGE_INTS) {
                fill(0, n, value);
                fill(77, n, value);
                fill(256 - Math.max(n, 1), n, value);
            }
        }
    }

    private static void fill(int address, int n, int value) {
        HiddenCaches x = Due.filled();
        String call = "deviceFill(" + address + ", " + n + ", " + value + ")";
        Due.is(call, x.deviceFill(address, n, value), n);
        for (int a = address; a < address + n; a++) {
            Due.is("load(" + a + ") after " + call, x.load(a), value);
            Due.is("deviceRead(" + a + ") after " + call, x.deviceRead(a), value);
        }
        Due.restIsAsFilled(call, x, address, address + n - 1);
    }

    private static void badAddresses() {
        for (int bad : new int[] {-1, -64, 256, 257, Integer.MIN_VALUE, Integer.MAX_VALUE}) {
            for (int n : new int[] {0, 1, 64, 65, -1, Integer.MIN_VALUE, Integer.MAX_VALUE}) {
                refused(HiddenCaches.BAD_ADDRESS, bad, n);
            }
        }
    }

    private static void badLengths() {
        for (int n : new int[] {-1, -2, -64, 65, 66, 256, Integer.MIN_VALUE, Integer.MAX_VALUE,
            Integer.MIN_VALUE + 255, Integer.MAX_VALUE - 255}) {
            refused(HiddenCaches.BAD_LENGTH, 0, n);
            refused(HiddenCaches.BAD_LENGTH, 100, n);
            refused(HiddenCaches.BAD_LENGTH, 255, n);
        }
    }

    private static void beyondTheEnd() {
        for (int n = 2; n <= 64; n++) {
            refused(HiddenCaches.BAD_LENGTH, 257 - n, n);
            refused(HiddenCaches.BAD_LENGTH, 255, n);
        }
    }

    private static void refused(int want, int address, int n) {
        String call = "deviceFill(" + address + ", " + n + ", 1)";
        Due.answers(call, want, x -> x.deviceFill(address, n, 1));
        Due.changesNothing(call, address & 255, x -> x.deviceFill(address, n, 1));
    }

    private static void elseAnswersN() {
        for (int n = 0; n <= 64; n++) {
            int length = n;
            int last = n == 0 ? 255 : 256 - n;
            Due.answers("deviceFill(0, " + n + ", 1)", n, x -> x.deviceFill(0, length, 1));
            Due.answers("deviceFill(" + last + ", " + n + ", 1)", n, x -> x.deviceFill(last, length, 1));
        }
    }

    private static void fillsOfNone() {
        for (int address : new int[] {0, 100, 255}) {
            String call = "deviceFill(" + address + ", 0, 1)";
            Due.changesNothing(call, address, x -> x.deviceFill(address, 0, 1));
        }
    }
}
