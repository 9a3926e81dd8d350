/** Promises 8, 9 and 16: the reservation and the conditional store. */
public final class ReservationTest {
    private static final int[] WORDS = {0, 1, 2, 127, 128, 200, 254, 255};

    public static void main(String[] args) {
        Due.sentence("Promise 8: The processor reads a word and reserves it", ReservationTest::readsAndReserves);
        Due.sentence("Promise 8: instead of any other one", ReservationTest::insteadOfAnyOther);
        Due.sentence("Promise 9: if the word is reserved, the value is written and the answer is 1",
            ReservationTest::storesIfReserved);
        Due.sentence("Promise 9: else nothing is written and the answer is 0",
            ReservationTest::storesNothingElse);
        Due.sentence("Promise 9: No word is reserved then", ReservationTest::noneIsReservedThen);
        Due.sentence("Promise 9: (a conditional store to a bad address is refused and changes nothing)",
            ReservationTest::refusedConditionalStores);
        Due.sentence("Promise 16: The reserved word", ReservationTest::tellsTheReservedWord);
        Due.sentence("Promise 16: -1 if there is none", ReservationTest::tellsThatThereIsNone);
        Due.end();
    }

    private static void readsAndReserves() {
        for (int word : WORDS) {
            for (int value : Due.EDGE_INTS) {
                HiddenCaches x = Due.filled();
                Due.is("loadReserved(" + word + ")", x.loadReserved(word), Due.valueOf(word));
                x.deviceWrite(word, value);
                Due.is("loadReserved(" + word + ") after deviceWrite", x.loadReserved(word), value);
                Due.is("reserved() after loadReserved(" + word + ")", x.reserved(), word);
                Due.is("loadReserved(" + word + ") again", x.loadReserved(word), value);
                Due.is("reserved() after it", x.reserved(), word);
                Due.restIsAsFilled("loadReserved(" + word + ")", x, word, word);
            }
        }
    }

    private static void insteadOfAnyOther() {
        for (int first : WORDS) {
            for (int second : WORDS) {
                if (first != second) {
                    theSecondTakesIt(first, second);
                }
            }
        }
    }

    private static void theSecondTakesIt(int first, int second) {
        String after = "loadReserved(" + first + "), loadReserved(" + second + ")";
        HiddenCaches x = Due.filledAndReserved(first);
        x.loadReserved(second);
        x.store(first, 1);
        Due.is("reserved() after " + after + ", store to the first", x.reserved(), second);
        Due.is("storeConditional to the second after " + after, x.storeConditional(second, 1), 1);
        x = Due.filledAndReserved(first);
        x.loadReserved(second);
        Due.is("storeConditional to the first after " + after, x.storeConditional(first, 1), 0);
        Due.is("storeConditional to the second after that", x.storeConditional(second, 1), 0);
        Due.allIsAsFilled(after, x);
    }

    private static void storesIfReserved() {
        for (int word : WORDS) {
            for (int value : Due.EDGE_INTS) {
                HiddenCaches x = Due.filledAndReserved(word);
                String call = "storeConditional(" + word + ", " + value + ")";
                Due.is(call, x.storeConditional(word, value), 1);
                Due.is("load after " + call, x.load(word), value);
                Due.is("deviceRead after " + call, x.deviceRead(word), value);
                Due.restIsAsFilled(call, x, word, word);
            }
        }
    }

    private static void storesNothingElse() {
        for (int word : WORDS) {
            for (int reserved : new int[] {Due.NONE, word ^ 1, word ^ 64, word ^ 128, 255 - word}) {
                HiddenCaches x = Due.filledAndReserved(reserved);
                String call = "storeConditional(" + word + ", 1), reserved " + reserved;
                Due.is(call, x.storeConditional(word, 1), 0);
                Due.is("load after " + call, x.load(word), Due.valueOf(word));
                Due.allIsAsFilled(call, x);
            }
        }
    }

    private static void noneIsReservedThen() {
        for (int word : WORDS) {
            for (int reserved : new int[] {Due.NONE, word, word ^ 1, 255 - word}) {
                HiddenCaches x = Due.filledAndReserved(reserved);
                x.storeConditional(word, 5);
                String after = "storeConditional(" + word + ", 5), reserved " + reserved;
                Due.is("reserved() after " + after, x.reserved(), -1);
                Due.is("storeConditional again after " + after, x.storeConditional(word, 6), 0);
                Due.holds("nothing is written by it", x.load(word) != 6);
            }
        }
    }

    private static void refusedConditionalStores() {
        for (int bad : new int[] {-1, -2, 256, 257, Integer.MIN_VALUE, Integer.MAX_VALUE}) {
            String call = "storeConditional(" + bad + ", 1)";
            Due.answers(call, HiddenCaches.BAD_ADDRESS, x -> x.storeConditional(bad, 1));
            Due.changesNothing(call, bad & 255, x -> x.storeConditional(bad, 1));
        }
    }

    private static void tellsTheReservedWord() {
        HiddenCaches x = new HiddenCaches(0);
        for (int word = 0; word < 256; word++) {
            x.loadReserved(word);
            Due.is("reserved() after loadReserved(" + word + ")", x.reserved(), word);
        }
        for (int word : WORDS) {
            Due.changesNothing("reserved()", word, y -> y.reserved());
        }
    }

    private static void tellsThatThereIsNone() {
        for (int word : WORDS) {
            for (Write write : Write.ALL) {
                HiddenCaches x = new HiddenCaches(0);
                Due.is("reserved() of a new object", x.reserved(), -1);
                x.loadReserved(word);
                write.on(x, word, 3);
                Due.is("reserved() after " + write.name() + " to " + word, x.reserved(), -1);
                Due.is("reserved() once more", x.reserved(), -1);
                x.loadReserved(256);
                Due.is("reserved() after loadReserved(256)", x.reserved(), -1);
            }
        }
    }
}
