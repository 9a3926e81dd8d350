import java.util.List;

/** What the other tests hold at the edges, here at every word, byte, length and reservation there is. */
public final class EveryPlaceTest {
    private static final int CALLS = 512;

    private record OneWord(String name, Write.How how) {
    }

    /** Each call that writes one word and no other. */
    private static final List<OneWord> WRITES = List.of(
        new OneWord("store", (x, w, v) -> x.store(w, v)),
        new OneWord("storeByte 0", (x, w, v) -> x.storeByte(4 * w, v)),
        new OneWord("storeByte 1", (x, w, v) -> x.storeByte(4 * w + 1, v)),
        new OneWord("storeByte 2", (x, w, v) -> x.storeByte(4 * w + 2, v)),
        new OneWord("storeByte 3", (x, w, v) -> x.storeByte(4 * w + 3, v)),
        new OneWord("swap", (x, w, v) -> x.swap(w, v)),
        new OneWord("addTo", (x, w, v) -> x.addTo(w, v)),
        new OneWord("copy", (x, w, v) -> x.copy(255 - w, w, 1)),
        new OneWord("deviceWrite", (x, w, v) -> x.deviceWrite(w, v)),
        new OneWord("deviceFill", (x, w, v) -> x.deviceFill(w, 1, v)));

    public static void main(String[] args) {
        Due.sentence("every read gives what was written last to the word (every word, every write)",
            EveryPlaceTest::everyWord);
        Due.sentence("or byte of a word (every byte)", EveryPlaceTest::everyByte);
        Due.sentence("It is lost when anything is written to that word (every two words, every write)",
            EveryPlaceTest::everyReservationAndWrite);
        Due.sentence("Promise 9 (every two words)", EveryPlaceTest::everyReservationAndConditionalStore);
        Due.sentence("Promise 10: BAD_ADDRESS, BAD_LENGTH, else n (every two addresses and n)",
            EveryPlaceTest::everyCopy);
        Due.sentence("Promise 10 (copies of every length, the reservation at every word)",
            EveryPlaceTest::everyReservationAndCopy);
        Due.sentence("Promise 13: BAD_ADDRESS, BAD_LENGTH, else n (every address and n)",
            EveryPlaceTest::everyFill);
        Due.sentence("Promise 13 (fills of every length, the reservation at every word)",
            EveryPlaceTest::everyReservationAndFill);
        Due.end();
    }

    private static void everyWord() {
        for (int word = 0; word < 256; word++) {
            for (Write write : Write.ALL) {
                HiddenCaches x = new HiddenCaches(word);
                String after = " after " + write.name() + " at " + word;
                write.on(x, word, 0x9abcdef0);
                Due.is("load" + after, x.load(word), 0x9abcdef0);
                Due.is("deviceRead" + after, x.deviceRead(word), 0x9abcdef0);
                Due.is("sum" + after, x.sum(), 0x9abcdef0);
            }
        }
    }

    private static void everyByte() {
        for (int place = 0; place < 1024; place++) {
            HiddenCaches x = new HiddenCaches(0);
            Due.is("storeByte(" + place + ", 200)", x.storeByte(place, 200), 0);
            Due.is("loadByte(" + place + ", false)", x.loadByte(place, false), 200);
            Due.is("loadByte(" + place + ", true)", x.loadByte(place, true), 200 - 256);
            Due.is("deviceRead of byte " + place, x.deviceRead(place / 4), 200 << 8 * (place % 4));
            Due.is("sum() with byte " + place, x.sum(), 200 << 8 * (place % 4));
        }
    }

    private static void everyReservationAndWrite() {
        for (OneWord write : WRITES) {
            for (int reserved = 0; reserved < 256; reserved++) {
                for (int word = 0; word < 256; word++) {
                    HiddenCaches x = new HiddenCaches(0);
                    x.loadReserved(reserved);
                    write.how().write(x, word, 5);
                    Due.is("reserved() after loadReserved(" + reserved + "), " + write.name() + " at " + word,
                        x.reserved(), reserved == word ? -1 : reserved);
                }
            }
        }
    }

    private static void everyReservationAndConditionalStore() {
        for (int reserved = -1; reserved < 256; reserved++) {
            for (int word = 0; word < 256; word++) {
                HiddenCaches x = new HiddenCaches(0);
                x.loadReserved(reserved);
                String call = "storeConditional(" + word + ", 5), reserved " + reserved;
                int want = reserved == word ? 1 : 0;
                Due.is(call, x.storeConditional(word, 5), want);
                Due.is("load after " + call, x.load(word), 5 * want);
                Due.is("sum() after " + call, x.sum(), 5 * want);
                Due.is("reserved() after " + call, x.reserved(), -1);
            }
        }
    }

    private static void everyCopy() {
        HiddenCaches x = null;
        int calls = 0;
        for (int from = -2; from < 258; from++) {
            for (int to = -2; to < 258; to++) {
                for (int n = -2; n < 35; n++) {
                    if (calls++ % CALLS == 0) {
                        x = new HiddenCaches(0);
                    }
                    int got = x.copy(from, to, n);
                    int want = answer(Math.min(from, to), Math.max(from, to), n, 32);
                    Due.is("copy(" + from + ", " + to + ", " + n + ")", got, want);
                }
            }
        }
    }

    /** Of a call on n words from each of two addresses on, which may be the same. */
    private static int answer(int lower, int higher, int n, int longest) {
        if (lower < 0 || higher > 255) {
            return HiddenCaches.BAD_ADDRESS;
        }
        boolean good = n >= 0 && n <= longest && higher + n - 1 <= 255;
        return good ? n : HiddenCaches.BAD_LENGTH;
    }

    private static void everyReservationAndCopy() {
        for (int n = 0; n <= 32; n++) {
            for (int to : new int[] {0, 1, 100, 255 - n, Math.min(255, 256 - n)}) {
                for (int reserved = 0; reserved < 256; reserved++) {
                    HiddenCaches x = new HiddenCaches(0);
                    x.loadReserved(reserved);
                    x.copy(60, to, n);
                    isLostWithin("copy(60, " + to + ", " + n + ")", x, reserved, to, n);
                }
            }
        }
    }

    private static void everyFill() {
        for (int address = -2; address < 258; address++) {
            for (int n = -2; n < 67; n++) {
                HiddenCaches x = new HiddenCaches(0);
                String call = "deviceFill(" + address + ", " + n + ", 3)";
                int want = answer(address, address, n, 64);
                Due.is(call, x.deviceFill(address, n, 3), want);
                Due.is("sum() after " + call, x.sum(), 3 * Math.max(want, 0));
            }
        }
    }

    private static void everyReservationAndFill() {
        for (int n = 0; n <= 64; n++) {
            for (int address : new int[] {0, 1, 100, 255 - n, Math.min(255, 256 - n)}) {
                for (int reserved = 0; reserved < 256; reserved++) {
                    HiddenCaches x = new HiddenCaches(0);
                    x.loadReserved(reserved);
                    x.deviceFill(address, n, 0);
                    isLostWithin("deviceFill(" + address + ", " + n + ", 0)", x, reserved, address, n);
                }
            }
        }
    }

    private static void isLostWithin(String call, HiddenCaches x, int reserved, int first, int n) {
        boolean written = reserved >= first && reserved < first + n;
        Due.is("reserved() after " + call + ", reserved " + reserved, x.reserved(), written ? -1 : reserved);
    }
}
