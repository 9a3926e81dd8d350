import java.util.function.ToIntFunction;

/** "What it is": the words, what they hold, their start, and the 512 calls. */
public final class MemoryTest {
    private static final int CALLS = 512;

    public static void main(String[] args) {
        Due.sentence("A memory of 256 WORDS (0 to 255)", MemoryTest::wordsAreApart);
        Due.sentence("ints", MemoryTest::wordsHoldAnyInt);
        Due.sentence("all 0 at the start", MemoryTest::allZeroAtTheStart);
        Due.sentence("An object is used for at most 512 calls after it has been made",
            MemoryTest::theLastCallIsAnsweredToo);
        Due.sentence("what later calls answer is free (but LANGUAGE.md: no call may ever throw)",
            MemoryTest::laterCallsEnd);
        Due.end();
    }

    private static void wordsAreApart() {
        HiddenCaches x = Due.filled();
        for (int a = 0; a < 256; a++) {
            Due.is("load(" + a + ")", x.load(a), Due.valueOf(a));
        }
        x = Due.filled();
        for (int a = 255; a >= 0; a--) {
            Due.is("deviceRead(" + a + ")", x.deviceRead(a), Due.valueOf(a));
        }
    }

    private static void wordsHoldAnyInt() {
        for (int value : Due.EDGE_INTS) {
            HiddenCaches x = new HiddenCaches(0);
            x.store(0, value);
            x.deviceWrite(255, value);
            Due.is("load(0)", x.load(0), value);
            Due.is("deviceRead(0)", x.deviceRead(0), value);
            Due.is("load(255)", x.load(255), value);
            Due.is("deviceRead(255)", x.deviceRead(255), value);
            Due.is("load(1) beside", x.load(1), 0);
            Due.is("load(254) beside", x.load(254), 0);
        }
    }

    private static void allZeroAtTheStart() {
        HiddenCaches processor = new HiddenCaches(0);
        HiddenCaches device = new HiddenCaches(0);
        for (int a = 0; a < 256; a++) {
            Due.is("load(" + a + ")", processor.load(a), 0);
            Due.is("deviceRead(" + a + ")", device.deviceRead(a), 0);
        }
        Due.is("sum() of a new object", new HiddenCaches(0).sum(), 0);
        bytesAreZeroAtTheStart(0);
        bytesAreZeroAtTheStart(512);
    }

    private static void bytesAreZeroAtTheStart(int first) {
        HiddenCaches x = new HiddenCaches(0);
        for (int place = first; place < first + CALLS; place++) {
            Due.is("loadByte(" + place + ")", x.loadByte(place, place % 2 == 0), 0);
        }
    }

    private static void theLastCallIsAnsweredToo() {
        last("load", 9, x -> x.load(255));
        last("store", 0, x -> x.store(255, 1));
        last("loadByte", 9, x -> x.loadByte(1020, true));
        last("storeByte", 0, x -> x.storeByte(1023, 1));
        last("swap", 9, x -> x.swap(255, 1));
        last("addTo", 8, x -> x.addTo(255, -1));
        last("loadReserved", 9, x -> x.loadReserved(255));
        last("storeConditional", 1, x -> x.storeConditional(7, 1));
        last("copy", 32, x -> x.copy(0, 224, 32));
        last("deviceRead", 9, x -> x.deviceRead(255));
        last("deviceWrite", 0, x -> x.deviceWrite(255, 1));
        last("deviceFill", 64, x -> x.deviceFill(192, 64, 1));
        last("hint", 0, x -> x.hint(255, 1));
        last("sum", 9 + 509, x -> x.sum());
        last("reserved", 7, x -> x.reserved());
        last("load of a bad address", -1, x -> x.load(256));
        last("copy of a bad length", -2, x -> x.copy(0, 0, 33));
    }

    /** The 512th call, on an object that has 9 in its last word, 509 in its first, and 7 reserved. */
    private static void last(String name, int want, ToIntFunction<HiddenCaches> call) {
        HiddenCaches x = new HiddenCaches(0);
        x.store(255, 9);
        x.loadReserved(7);
        for (int made = 2; made < CALLS - 1; made++) {
            x.addTo(0, 1);
        }
        Due.is(name + " as the 512th call", call.applyAsInt(x), want);
    }

    private static void laterCallsEnd() {
        for (int shape = 0; shape < 4; shape++) {
            HiddenCaches x = new HiddenCaches(shape);
            Numbers numbers = new Numbers(shape);
            for (int i = 0; i < 20 * CALLS; i++) {
                Calls.any(numbers).on(x);
            }
        }
    }
}
