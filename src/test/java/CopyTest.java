/** Promise 10: copies. */
public final class CopyTest {
    private static final int[] BAD_ADDRESSES = {-1, -32, 256, 257, 1000, Integer.MIN_VALUE, Integer.MAX_VALUE};

    public static void main(String[] args) {
        Due.sentence("Promise 10: The processor copies n words from 'from' on to 'to' on",
            CopyTest::copiesApart);
        Due.sentence("Promise 10: one after the other in ascending order, each read just before it is written",
            CopyTest::copiesInAscendingOrder);
        Due.sentence("Promise 10: from not in 0 to 255: BAD_ADDRESS", CopyTest::badFrom);
        Due.sentence("Promise 10: to not in 0 to 255: BAD_ADDRESS", CopyTest::badTo);
        Due.sentence("Promise 10: n not in 0 to 32: BAD_LENGTH", CopyTest::badLengths);
        Due.sentence("Promise 10: one of the words that are read would lie beyond 255: BAD_LENGTH",
            CopyTest::readsBeyondTheEnd);
        Due.sentence("Promise 10: one of the words that are written would lie beyond 255: BAD_LENGTH",
            CopyTest::writesBeyondTheEnd);
        Due.sentence("Promise 10: Else answers n", CopyTest::elseAnswersN);
        Due.sentence("Promise 10: (n of 0 copies nothing and writes to no word)", CopyTest::copiesOfNone);
        Due.sentence("(copies see what the device wrote)", CopyTest::seesTheDevice);
        Due.end();
    }

    private static void copiesApart() {
        for (int n : new int[] {0, 1, 2, 31, 32}) {
            int last = 256 - Math.max(n, 1);
            copies(10, 100, n);
            copies(100, 10, n);
            copies(last, 0, n);
            copies(0, last, n);
            copies(last, last, n);
        }
    }

    /** Held against a copy that is made word by word in the test. */
    private static void copies(int from, int to, int n) {
        HiddenCaches x = Due.filled();
        int[] want = new int[256];
        for (int a = 0; a < 256; a++) {
            want[a] = Due.valueOf(a);
        }
        for (int i = 0; i < n; i++) {
            want[to + i] = want[from + i];
        }
        String call = "copy(" + from + ", " + to + ", " + n + ")";
        Due.is(call, x.copy(from, to, n), n);
        for (int i = 0; i < n; i++) {
            Due.is("load(" + (to + i) + ") after " + call, x.load(to + i), want[to + i]);
        }
        Due.restIsAsFilled(call, x, to, to + n - 1);
    }

    private static void copiesInAscendingOrder() {
        for (int n : new int[] {1, 2, 3, 10, 31, 32}) {
            for (int apart = 0; apart <= 33; apart++) {
                copies(50, 50 + apart, n);
                copies(50 + apart, 50, n);
            }
            copies(0, 1, n);
            copies(1, 0, n);
            copies(255 - n, 256 - n, n);
            copies(256 - n, 255 - n, n);
        }
        HiddenCaches x = Due.filled();
        x.copy(50, 51, 32);
        Due.is("load(82) after copy(50, 51, 32)", x.load(82), Due.valueOf(50));
        x.copy(101, 100, 32);
        Due.is("load(131) after copy(101, 100, 32)", x.load(131), Due.valueOf(132));
    }

    private static void badFrom() {
        for (int bad : BAD_ADDRESSES) {
            for (int n : new int[] {0, 1, 32, 33, -1}) {
                refused("copy(" + bad + ", 9, " + n + ")", HiddenCaches.BAD_ADDRESS, bad, 9, n);
            }
        }
    }

    private static void badTo() {
        for (int bad : BAD_ADDRESSES) {
            for (int n : new int[] {0, 1, 32, 33, -1}) {
                refused("copy(9, " + bad + ", " + n + ")", HiddenCaches.BAD_ADDRESS, 9, bad, n);
            }
            refused("copy(250, " + bad + ", 7)", HiddenCaches.BAD_ADDRESS, 250, bad, 7);
            refused("copy, both bad", HiddenCaches.BAD_ADDRESS, bad, bad, 1);
        }
    }

    private static void badLengths() {
        for (int n : new int[] {-1, -2, -32, 33, 34, 64, 256, Integer.MIN_VALUE, Integer.MAX_VALUE,
            Integer.MIN_VALUE + 255, Integer.MAX_VALUE - 255}) {
            refused("copy(0, 100, " + n + ")", HiddenCaches.BAD_LENGTH, 0, 100, n);
            refused("copy(100, 0, " + n + ")", HiddenCaches.BAD_LENGTH, 100, 0, n);
            refused("copy(255, 255, " + n + ")", HiddenCaches.BAD_LENGTH, 255, 255, n);
        }
    }

    private static void readsBeyondTheEnd() {
        for (int n = 2; n <= 32; n++) {
            refused("copy one beyond", HiddenCaches.BAD_LENGTH, 257 - n, 0, n);
            refused("copy from the last", HiddenCaches.BAD_LENGTH, 255, 0, n);
        }
    }

    private static void writesBeyondTheEnd() {
        for (int n = 2; n <= 32; n++) {
            refused("copy one beyond", HiddenCaches.BAD_LENGTH, 0, 257 - n, n);
            refused("copy to the last", HiddenCaches.BAD_LENGTH, 0, 255, n);
            refused("copy both beyond", HiddenCaches.BAD_LENGTH, 257 - n, 257 - n, n);
        }
    }

    private static void refused(String call, int want, int from, int to, int n) {
        Due.answers(call + ", from " + from + " to " + to + ", n " + n, want, x -> x.copy(from, to, n));
        Due.changesNothing(call + ", from " + from + " to " + to + ", n " + n, to & 255, x -> x.copy(from, to, n));
    }

    private static void elseAnswersN() {
        for (int n = 0; n <= 32; n++) {
            int length = n;
            int last = n == 0 ? 255 : 256 - n;
            Due.answers("copy(0, 100, " + n + ")", n, x -> x.copy(0, 100, length));
            Due.answers("copy from " + last + " on to the end", n, x -> x.copy(last, 0, length));
            Due.answers("copy to " + last + " on to the end", n, x -> x.copy(0, last, length));
            Due.answers("copy of " + last + " onto itself", n, x -> x.copy(last, last, length));
        }
    }

    private static void copiesOfNone() {
        for (int from : new int[] {0, 100, 255}) {
            for (int to : new int[] {0, 100, 255}) {
                String call = "copy(" + from + ", " + to + ", 0)";
                Due.changesNothing(call, to, x -> x.copy(from, to, 0));
            }
        }
    }

    private static void seesTheDevice() {
        HiddenCaches x = new HiddenCaches(3);
        x.load(4);
        x.deviceWrite(4, 44);
        x.storeByte(23, 128);
        x.copy(4, 104, 2);
        Due.is("deviceRead(104)", x.deviceRead(104), 44);
        Due.is("deviceRead(105)", x.deviceRead(105), 0x80000000);
    }
}
