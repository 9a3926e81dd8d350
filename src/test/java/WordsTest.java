/** Promises 2, 3, 6, 7, 11 and 12: words read and written by the processor and the device. */
public final class WordsTest {
    private static final int[] WORDS = {0, 1, 63, 64, 128, 254, 255};

    private interface Test {
        void on(HiddenCaches x, int word, int value);
    }

    public static void main(String[] args) {
        Due.sentence("Promise 2: The processor reads a word", () -> atEveryEdge(WordsTest::loads));
        Due.sentence("Promise 2, 11: (a read changes nothing)", WordsTest::readsChangeNothing);
        Due.sentence("Promise 3: The processor writes a word. Answers 0",
            () -> atEveryEdge(WordsTest::stores));
        Due.sentence("Promise 6: The processor writes a word and gets what was there before",
            () -> atEveryEdge(WordsTest::swaps));
        Due.sentence("Promise 7: The processor adds to a word and gets the new value",
            () -> atEveryEdge(WordsTest::adds));
        Due.sentence("Promise 7: wrapping", WordsTest::additionWraps);
        Due.sentence("Promise 7: this writes to it", WordsTest::additionIsAWrite);
        Due.sentence("Promise 11: The device reads a word", () -> atEveryEdge(WordsTest::deviceReads));
        Due.sentence("Promise 12: The device writes a word. Answers 0",
            () -> atEveryEdge(WordsTest::deviceWrites));
        Due.sentence("(words that caches would lay upon each other)", WordsTest::writesAlternate);
        Due.end();
    }

    private static void atEveryEdge(Test test) {
        for (int word : WORDS) {
            for (int value : Due.EDGE_INTS) {
                test.on(Due.filled(), word, value);
            }
        }
    }

    private static void loads(HiddenCaches x, int word, int value) {
        String load = "load(" + word + ")";
        Due.is(load, x.load(word), Due.valueOf(word));
        x.store(word, value);
        Due.is(load + " after store of " + value, x.load(word), value);
        x.deviceWrite(word, ~value);
        Due.is(load + " after deviceWrite of " + ~value, x.load(word), ~value);
        Due.is(load + " again", x.load(word), ~value);
    }

    private static void deviceReads(HiddenCaches x, int word, int value) {
        String read = "deviceRead(" + word + ")";
        Due.is(read, x.deviceRead(word), Due.valueOf(word));
        x.store(word, value);
        Due.is(read + " after store of " + value, x.deviceRead(word), value);
        x.deviceWrite(word, ~value);
        Due.is(read + " after deviceWrite of " + ~value, x.deviceRead(word), ~value);
        Due.is(read + " again", x.deviceRead(word), ~value);
    }

    private static void readsChangeNothing() {
        for (int word : WORDS) {
            Due.changesNothing("load(" + word + ")", word, x -> x.load(word));
            Due.changesNothing("deviceRead(" + word + ")", word, x -> x.deviceRead(word));
            Due.changesNothing("loadByte of " + word, word, x -> x.loadByte(4 * word + 3, true));
        }
    }

    private static void stores(HiddenCaches x, int word, int value) {
        String call = "store(" + word + ", " + value + ")";
        Due.is(call, x.store(word, value), 0);
        onlyHolds(call, x, word, value);
    }

    private static void deviceWrites(HiddenCaches x, int word, int value) {
        String call = "deviceWrite(" + word + ", " + value + ")";
        Due.is(call, x.deviceWrite(word, value), 0);
        onlyHolds(call, x, word, value);
    }

    private static void swaps(HiddenCaches x, int word, int value) {
        String call = "swap(" + word + ", " + value + ")";
        Due.is(call, x.swap(word, value), Due.valueOf(word));
        onlyHolds(call, x, word, value);
        Due.is("swap after " + call, x.swap(word, 7), value);
        x.deviceWrite(word, value);
        Due.is("swap after deviceWrite of " + value, x.swap(word, 8), value);
    }

    private static void adds(HiddenCaches x, int word, int value) {
        String call = "addTo(" + word + ", " + value + ")";
        int want = Due.valueOf(word) + value;
        Due.is(call, x.addTo(word, value), want);
        onlyHolds(call, x, word, want);
        x.deviceWrite(word, 5);
        Due.is("addTo after deviceWrite of 5", x.addTo(word, value), value + 5);
    }

    private static void onlyHolds(String after, HiddenCaches x, int word, int value) {
        Due.is("load after " + after, x.load(word), value);
        Due.is("deviceRead after " + after, x.deviceRead(word), value);
        Due.restIsAsFilled(after, x, word, word);
    }

    private static void additionWraps() {
        for (int word : new int[] {0, 9, 255}) {
            HiddenCaches x = new HiddenCaches(0);
            x.store(word, Integer.MAX_VALUE);
            Due.is("addTo 1 to the greatest", x.addTo(word, 1), Integer.MIN_VALUE);
            Due.is("load after it", x.load(word), Integer.MIN_VALUE);
            Due.is("addTo -1 to the least", x.addTo(word, -1), Integer.MAX_VALUE);
            Due.is("deviceRead after it", x.deviceRead(word), Integer.MAX_VALUE);
            Due.is("addTo the greatest to itself", x.addTo(word, Integer.MAX_VALUE), -2);
            x.deviceWrite(word, Integer.MIN_VALUE);
            Due.is("addTo the least to itself", x.addTo(word, Integer.MIN_VALUE), 0);
            Due.is("addTo the least to 0", x.addTo(word, Integer.MIN_VALUE), Integer.MIN_VALUE);
            Due.is("addTo of 0 to the least", x.addTo(word, 0), Integer.MIN_VALUE);
        }
    }

    private static void additionIsAWrite() {
        for (int word : WORDS) {
            for (int value : new int[] {0, 1, -1, Integer.MIN_VALUE}) {
                HiddenCaches x = Due.filledAndReserved(word);
                x.addTo(word, value);
                Due.is("reserved() after addTo(" + word + ", " + value + ")", x.reserved(), -1);
                Due.is("storeConditional after addTo", x.storeConditional(word, 1), 0);
            }
        }
    }

    private static void writesAlternate() {
        HiddenCaches x = new HiddenCaches(1);
        for (int a = 0; a < 256; a += 16) {
            x.store(a, a + 1);
            x.deviceWrite(a, a + 2);
            x.hint(a, a / 16);
        }
        for (int a = 0; a < 256; a += 16) {
            Due.is("load(" + a + ") after deviceWrite", x.load(a), a + 2);
        }
    }
}
