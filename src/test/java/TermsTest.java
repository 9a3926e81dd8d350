import java.util.function.Consumer;

/** "Terms": what is read, the bytes of a word, byte addresses and the reservation. */
public final class TermsTest {
    private static final int[] EDGE_WORDS = {0, 1, 127, 128, 254, 255};

    public static void main(String[] args) {
        Due.sentence("NOTHING OF THAT CAN BE SEEN: every read, by whichever of the two, gives what was"
            + " written last to the word, by either", TermsTest::readsGiveTheLastWrite);
        Due.sentence("every read gives what was written last to the byte of a word, by either",
            TermsTest::readsGiveTheLastByte);
        Due.sentence("A word has four BYTES (0 to 3), byte b being its bits 8 * b to 8 * b + 7",
            TermsTest::everyBitIsInItsByte);
        Due.sentence("A BYTE ADDRESS is 4 * word + byte (0 to 1023)", TermsTest::byteAddresses);
        Due.sentence("The processor may hold a RESERVATION of one word", TermsTest::oneReservation);
        Due.sentence("It is lost when anything is written to that word, by whomever",
            TermsTest::everyWriteLosesIt);
        Due.sentence("(and not when something is written to a word beside it, or is only read)",
            TermsTest::nothingElseLosesIt);
        Due.sentence("and by every conditional store", TermsTest::everyConditionalStoreLosesIt);
        Due.end();
    }

    private static void readsGiveTheLastWrite() {
        for (int word : new int[] {0, 255}) {
            for (Write first : Write.ALL) {
                for (Write second : Write.ALL) {
                    String after = first.name() + ", " + second.name() + " at " + word;
                    HiddenCaches x = new HiddenCaches(word);
                    first.on(x, word, 0x01020304);
                    x.hint(word, 1);
                    second.on(x, word, 0x81a2c3e4);
                    everyReadGives(after, x, word, 0x81a2c3e4);
                    Due.is("sum() after " + after, x.sum(), 0x81a2c3e4);
                }
            }
        }
    }

    private static void everyReadGives(String after, HiddenCaches x, int word, int value) {
        Due.is("load after " + after, x.load(word), value);
        Due.is("deviceRead after " + after, x.deviceRead(word), value);
        for (int b = 0; b < 4; b++) {
            int want = value >>> 8 * b & 255;
            Due.is("loadByte " + b + " after " + after, x.loadByte(4 * word + b, false), want);
        }
        Due.is("loadReserved after " + after, x.loadReserved(word), value);
        Due.is("swap after " + after, x.swap(word, value), value);
        Due.is("addTo after " + after, x.addTo(word, 0), value);
        x.copy(word, word ^ 32, 1);
        Due.is("deviceRead of a copy after " + after, x.deviceRead(word ^ 32), value);
        x.deviceWrite(word ^ 32, 0);
    }

    private static void readsGiveTheLastByte() {
        for (int word : new int[] {0, 255}) {
            for (Write write : Write.ALL) {
                for (int b = 0; b < 4; b++) {
                    aByteIsWrittenOver(write, word, b);
                }
            }
        }
    }

    private static void aByteIsWrittenOver(Write write, int word, int b) {
        HiddenCaches x = new HiddenCaches(0);
        String after = write.name() + " and storeByte " + b + " of word " + word;
        write.on(x, word, 0x11223344);
        x.storeByte(4 * word + b, 0x99);
        int want = 0x11223344 & ~(255 << 8 * b) | 0x99 << 8 * b;
        everyReadGives(after, x, word, want);
        write.on(x, word, 0x55667788);
        everyReadGives(after + " and " + write.name(), x, word, 0x55667788);
    }

    private static void everyBitIsInItsByte() {
        for (int bit = 0; bit < 32; bit++) {
            HiddenCaches x = new HiddenCaches(0);
            x.store(255, 1 << bit);
            x.storeByte(bit / 8, 1 << bit % 8);
            Due.is("load(0) with bit " + bit + " by its byte", x.load(0), 1 << bit);
            for (int b = 0; b < 4; b++) {
                int want = b == bit / 8 ? 1 << bit % 8 : 0;
                Due.is("byte " + b + " of bit " + bit, x.loadByte(1020 + b, false), want);
            }
        }
    }

    private static void byteAddresses() {
        for (int word : EDGE_WORDS) {
            HiddenCaches x = Due.filled();
            for (int b = 0; b < 4; b++) {
                int place = 4 * word + b;
                int want = Due.valueOf(word) >>> 8 * b & 255;
                Due.is("loadByte(" + place + ", false)", x.loadByte(place, false), want);
                Due.is("storeByte(" + place + ", ..)", x.storeByte(place, 0x70 + b), 0);
            }
            Due.is("load(" + word + ") after its bytes", x.load(word), 0x73727170);
            Due.restIsAsFilled("the bytes of " + word, x, word, word);
        }
    }

    private static void oneReservation() {
        for (int first : EDGE_WORDS) {
            for (int second : EDGE_WORDS) {
                HiddenCaches x = Due.filledAndReserved(first);
                x.loadReserved(second);
                Due.is("reserved() after " + first + ", " + second, x.reserved(), second);
                Due.is("storeConditional to the first of " + first + ", " + second,
                    x.storeConditional(first, 1), first == second ? 1 : 0);
            }
        }
    }

    /** A write of the value that is there is a write all the same. */
    private static void everyWriteLosesIt() {
        for (int w : EDGE_WORDS) {
            int v = Due.valueOf(w);
            loses("store", w, x -> x.store(w, 1));
            loses("store of the same", w, x -> x.store(w, v));
            loses("swap", w, x -> x.swap(w, 1));
            loses("swap for the same", w, x -> x.swap(w, v));
            loses("addTo", w, x -> x.addTo(w, 1));
            loses("addTo of 0", w, x -> x.addTo(w, 0));
            loses("deviceWrite", w, x -> x.deviceWrite(w, 1));
            loses("deviceWrite of the same", w, x -> x.deviceWrite(w, v));
            loses("deviceFill of one", w, x -> x.deviceFill(w, 1, 1));
            loses("deviceFill of one with the same", w, x -> x.deviceFill(w, 1, v));
            loses("copy to it", w, x -> x.copy(w ^ 1, w, 1));
            loses("copy onto itself", w, x -> x.copy(w, w, 1));
            for (int b = 0; b < 4; b++) {
                int place = 4 * w + b;
                int same = v >> 8 * b;
                loses("storeByte " + b, w, x -> x.storeByte(place, same + 1));
                loses("storeByte " + b + " of the same", w, x -> x.storeByte(place, same));
            }
            longWritesLoseIt(w);
            loses("store to another value and back", w, x -> {
                x.store(w, ~v);
                x.store(w, v);
            });
        }
    }

    private static void longWritesLoseIt(int w) {
        int belowIt = Math.min(w, 31);
        loses("copy, as its last word", w, x -> x.copy(100, w - belowIt, belowIt + 1));
        loses("deviceFill, as its last word", w, x -> x.deviceFill(w - belowIt, belowIt + 1, 1));
        int fromIt = 256 - w;
        loses("copy, as its first word", w, x -> x.copy(100, w, Math.min(fromIt, 32)));
        loses("deviceFill, as its first word", w, x -> x.deviceFill(w, Math.min(fromIt, 64), 1));
    }

    private static void loses(String what, int word, Consumer<HiddenCaches> call) {
        HiddenCaches x = Due.filledAndReserved(word);
        call.accept(x);
        Due.is("reserved() after " + what + " at " + word, x.reserved(), -1);
        int before = x.load(word);
        Due.is("storeConditional after " + what + " at " + word, x.storeConditional(word, 99), 0);
        Due.is("load after " + what + " at " + word, x.load(word), before);
    }

    private static void nothingElseLosesIt() {
        for (int w : EDGE_WORDS) {
            keeps("load", w, x -> x.load(w));
            keeps("loadByte", w, x -> x.loadByte(4 * w, true));
            keeps("deviceRead", w, x -> x.deviceRead(w));
            keeps("sum", w, x -> x.sum());
            keeps("reserved", w, x -> x.reserved());
            keeps("loadReserved again", w, x -> x.loadReserved(w));
            keeps("hint", w, x -> x.hint(w, 1));
            keeps("copy of none", w, x -> x.copy(w, w, 0));
            keeps("deviceFill of none", w, x -> x.deviceFill(w, 0, 1));
            if (w > 0) {
                writesBesideKeepIt(w, w - 1);
                keeps("storeByte just below", w, x -> x.storeByte(4 * w - 1, 1));
                int n = Math.min(w, 32);
                keeps("copy up to it", w, x -> x.copy(100, w - n, n));
                keeps("deviceFill up to it", w, x -> x.deviceFill(w - n, n, 1));
            }
            if (w < 255) {
                writesBesideKeepIt(w, w + 1);
                keeps("storeByte just above", w, x -> x.storeByte(4 * w + 4, 1));
                int n = Math.min(255 - w, 32);
                keeps("copy from after it", w, x -> x.copy(100, w + 1, n));
                keeps("deviceFill from after it", w, x -> x.deviceFill(w + 1, n, 1));
            }
        }
    }

    private static void writesBesideKeepIt(int w, int beside) {
        keeps("store beside", w, x -> x.store(beside, 1));
        keeps("swap beside", w, x -> x.swap(beside, 1));
        keeps("addTo beside", w, x -> x.addTo(beside, 1));
        keeps("deviceWrite beside", w, x -> x.deviceWrite(beside, 1));
        keeps("copy of it", w, x -> x.copy(w, beside, 1));
    }

    private static void keeps(String what, int word, Consumer<HiddenCaches> call) {
        HiddenCaches x = Due.filledAndReserved(word);
        call.accept(x);
        Due.is("reserved() after " + what + " at " + word, x.reserved(), word);
        Due.is("reserved() once more", x.reserved(), word);
        Due.is("storeConditional after " + what + " at " + word, x.storeConditional(word, 99), 1);
        Due.is("load after " + what + " at " + word, x.load(word), 99);
    }

    private static void everyConditionalStoreLosesIt() {
        for (int w : EDGE_WORDS) {
            for (int to : EDGE_WORDS) {
                HiddenCaches x = Due.filledAndReserved(w);
                x.storeConditional(to, Due.valueOf(to));
                String after = "storeConditional to " + to + ", reserved " + w;
                Due.is("reserved() after " + after, x.reserved(), -1);
                Due.is("storeConditional once more after " + after, x.storeConditional(w, 1), 0);
                Due.is("load after " + after, x.load(w), Due.valueOf(w));
            }
        }
    }
}
