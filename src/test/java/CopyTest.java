/** Promise 10: copies, with overlap and with every edge of the arguments. */
public final class CopyTest {
    public static void main(String[] args) {
        for (int n : new int[] {0, 1, 2, 31, 32}) {
            apart(10, 100, n);
            apart(100, 10, n);
            apart(256 - Math.max(n, 1), 0, n);
            apart(0, 256 - Math.max(n, 1), n);
        }
        apart(255, 0, 1);
        apart(0, 255, 1);
        upwardsOverlapRepeats();
        downwardsOverlapMoves();
        seesTheDevice();
        badAddresses();
        badLengths();
        Due.end();
    }

    private static void apart(int from, int to, int n) {
        HiddenCaches x = Due.filled();
        String call = "copy(" + from + ", " + to + ", " + n + ")";
        Due.is(call, x.copy(from, to, n), n);
        for (int i = 0; i < n; i++) {
            Due.is("load(" + (to + i) + ") after " + call, x.load(to + i), Due.valueOf(from + i));
        }
        Due.restIsAsFilled(call, x, to, to + n - 1);
    }

    private static void upwardsOverlapRepeats() {
        HiddenCaches x = Due.filled();
        Due.is("copy(50, 51, 32)", x.copy(50, 51, 32), 32);
        for (int a = 50; a <= 82; a++) {
            Due.is("load(" + a + ") after copy(50, 51, 32)", x.load(a), Due.valueOf(50));
        }
        Due.restIsAsFilled("copy(50, 51, 32)", x, 51, 82);
        x = Due.filled();
        Due.is("copy(0, 3, 10)", x.copy(0, 3, 10), 10);
        for (int i = 0; i < 10; i++) {
            Due.is("load(" + (3 + i) + ") after copy(0, 3, 10)", x.load(3 + i), Due.valueOf(i % 3));
        }
    }

    private static void downwardsOverlapMoves() {
        HiddenCaches x = Due.filled();
        Due.is("copy(51, 50, 32)", x.copy(51, 50, 32), 32);
        for (int a = 50; a < 82; a++) {
            Due.is("load(" + a + ") after copy(51, 50, 32)", x.load(a), Due.valueOf(a + 1));
        }
        Due.restIsAsFilled("copy(51, 50, 32)", x, 50, 81);
        Due.is("copy(9, 9, 20)", x.copy(9, 9, 20), 20);
        Due.restIsAsFilled("copy(9, 9, 20)", x, 50, 81);
    }

    private static void seesTheDevice() {
        HiddenCaches x = new HiddenCaches(3);
        x.load(4);
        x.deviceWrite(4, 44);
        x.storeByte(23, 128);
        x.copy(4, 104, 2);
        Due.is("deviceRead(104)", x.deviceRead(104), 44);
        Due.is("deviceRead(105)", x.deviceRead(105), 0x80000000);
    }

    /** The address comes first, even if the length is bad too. */
    private static void badAddresses() {
        HiddenCaches x = Due.filled();
        for (int bad : new int[] {-1, 256, 1000, Integer.MIN_VALUE, Integer.MAX_VALUE}) {
            for (int n : new int[] {0, 1, 32, 33, -1, Integer.MIN_VALUE, Integer.MAX_VALUE}) {
                Due.is("copy(" + bad + ", 0, " + n + ")", x.copy(bad, 0, n), HiddenCaches.BAD_ADDRESS);
                Due.is("copy(0, " + bad + ", " + n + ")", x.copy(0, bad, n), HiddenCaches.BAD_ADDRESS);
                Due.is("copy(255, " + bad + ", " + n + ")", x.copy(255, bad, n), HiddenCaches.BAD_ADDRESS);
                Due.is("copy(" + bad + ", bad, " + n + ")", x.copy(bad, bad, n), HiddenCaches.BAD_ADDRESS);
            }
        }
        Due.allIsAsFilled("refused copies", x);
    }

    private static void badLengths() {
        HiddenCaches x = Due.filled();
        for (int n : new int[] {-1, -32, 33, 64, 256, Integer.MIN_VALUE, Integer.MAX_VALUE}) {
            Due.is("copy(0, 100, " + n + ")", x.copy(0, 100, n), HiddenCaches.BAD_LENGTH);
            Due.is("copy(255, 255, " + n + ")", x.copy(255, 255, n), HiddenCaches.BAD_LENGTH);
        }
        for (int n = 2; n <= 32; n++) {
            Due.is("copy beyond the end, to", x.copy(0, 257 - n, n), HiddenCaches.BAD_LENGTH);
            Due.is("copy beyond the end, from", x.copy(257 - n, 0, n), HiddenCaches.BAD_LENGTH);
        }
        Due.allIsAsFilled("refused copies", x);
        Due.is("copy(255, 255, 0)", x.copy(255, 255, 0), 0);
        Due.is("copy(224, 224, 32)", x.copy(224, 224, 32), 32);
    }
}
