/** Promises 14 and 15: calls that change nothing. */
public final class HintAndSumTest {
    private static final int[] WORDS = {0, 1, 64, 254, 255};
    private static final int[] HOWS = {0, 1, 2, 3, 4, 5, 6, 7, 8, 100, 255, 256, -1, -2,
        Integer.MIN_VALUE, Integer.MAX_VALUE};

    public static void main(String[] args) {
        Due.sentence("Promise 14: how, any int. Else answers 0", HintAndSumTest::anyHowAnswersZero);
        Due.sentence("Promise 14: Changes nothing that any call answers", HintAndSumTest::hintsChangeNothing);
        Due.sentence("Promise 14: BAD_ADDRESS", HintAndSumTest::badAddresses);
        Due.sentence("Promise 14: (a hint between a write and a read)", HintAndSumTest::hintsKeepLateWrites);
        Due.sentence("Promise 15: The sum of all words", HintAndSumTest::sumsAllWords);
        Due.sentence("Promise 15: wrapping", HintAndSumTest::sumsWrap);
        Due.sentence("Promise 15: Changes nothing that any call answers", HintAndSumTest::sumsChangeNothing);
        Due.end();
    }

    private static void anyHowAnswersZero() {
        for (int how : HOWS) {
            for (int word : WORDS) {
                Due.answers("hint(" + word + ", " + how + ")", 0, x -> x.hint(word, how));
            }
        }
    }

    private static void hintsChangeNothing() {
        for (int how : HOWS) {
            for (int word : WORDS) {
                Due.changesNothing("hint(" + word + ", " + how + ")", word, x -> x.hint(word, how));
            }
        }
    }

    private static void badAddresses() {
        for (int how : HOWS) {
            for (int bad : new int[] {-1, 256, Integer.MIN_VALUE, Integer.MAX_VALUE}) {
                String call = "hint(" + bad + ", " + how + ")";
                Due.answers(call, HiddenCaches.BAD_ADDRESS, x -> x.hint(bad, how));
                Due.changesNothing(call, bad & 255, x -> x.hint(bad, how));
            }
        }
    }

    private static void hintsKeepLateWrites() {
        for (int how : HOWS) {
            for (int word : WORDS) {
                HiddenCaches x = new HiddenCaches(0);
                String hint = "hint(" + word + ", " + how + ")";
                x.hint(word, how);
                x.deviceWrite(word, 3);
                Due.is("load after " + hint + " and deviceWrite", x.load(word), 3);
                x.store(word, 4);
                x.hint(word, how);
                Due.is("deviceRead after store and " + hint, x.deviceRead(word), 4);
                Due.is("load after store and " + hint, x.load(word), 4);
            }
        }
    }

    private static void sumsAllWords() {
        Due.is("sum() of a new object", new HiddenCaches(0).sum(), 0);
        HiddenCaches x = new HiddenCaches(0);
        for (int a = 0; a < 256; a++) {
            x.store(a, a + 1);
            Due.is("sum() of the words to " + a, x.sum(), (a + 1) * (a + 2) / 2);
        }
        x = new HiddenCaches(0);
        x.store(0, 1);
        x.deviceWrite(255, 20);
        x.storeByte(4 * 100 + 1, 2);
        Due.is("sum() of words of both sides", x.sum(), 1 + 20 + 512);
        x.deviceFill(1, 64, -5);
        Due.is("sum() below 0", x.sum(), 533 - 320);
        x.copy(1, 90, 32);
        Due.is("sum() after copy", x.sum(), 533 - 320 - 160 - 512);
    }

    private static void sumsWrap() {
        HiddenCaches x = new HiddenCaches(0);
        x.store(0, Integer.MAX_VALUE);
        x.store(255, 1);
        Due.is("sum() one beyond the greatest", x.sum(), Integer.MIN_VALUE);
        x.store(128, Integer.MAX_VALUE);
        Due.is("sum() of the greatest twice, and 1", x.sum(), -1);
        x = new HiddenCaches(0);
        x.store(0, Integer.MIN_VALUE);
        x.deviceWrite(255, -1);
        Due.is("sum() one below the least", x.sum(), Integer.MAX_VALUE);
        for (int a = 0; a < 256; a += 64) {
            x.deviceFill(a, 64, Integer.MAX_VALUE);
        }
        Due.is("sum() of the greatest 256 times", x.sum(), -256);
        for (int a = 0; a < 256; a += 64) {
            x.deviceFill(a, 64, Integer.MIN_VALUE);
        }
        Due.is("sum() of the least 256 times", x.sum(), 0);
    }

    private static void sumsChangeNothing() {
        for (int word : WORDS) {
            Due.changesNothing("sum()", word, x -> x.sum());
        }
        HiddenCaches x = Due.filled();
        int first = x.sum();
        for (int i = 0; i < 20; i++) {
            Due.is("sum() again", x.sum(), first);
        }
    }
}
