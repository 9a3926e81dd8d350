import java.util.List;

/** The rule that stands for all calls: bad addresses, and what a refused call leaves. */
public final class RefusalTest {
    private static final int[] BAD_WORDS = {-1, -2, -256, 256, 257, 511, 1023, 1024,
        Integer.MIN_VALUE, Integer.MAX_VALUE};
    private static final int[] BAD_BYTES = {-1, -3, -4, -5, 1024, 1025, 4096,
        Integer.MIN_VALUE, Integer.MAX_VALUE};
    private static final int[] LENGTHS = {0, 1, 2, 32, 33, 64, 65, 256, -1,
        Integer.MIN_VALUE, Integer.MAX_VALUE};

    private interface Call {
        int at(HiddenCaches x, int address);
    }

    private record Named(String name, Call call) {
        int on(HiddenCaches x, int address) {
            return call.at(x, address);
        }
    }

    private static final List<Named> WORD_CALLS = List.of(
        new Named("load", (x, a) -> x.load(a)),
        new Named("store", (x, a) -> x.store(a, 1)),
        new Named("swap", (x, a) -> x.swap(a, 1)),
        new Named("addTo", (x, a) -> x.addTo(a, 1)),
        new Named("loadReserved", (x, a) -> x.loadReserved(a)),
        new Named("storeConditional", (x, a) -> x.storeConditional(a, 1)),
        new Named("copy from", (x, a) -> x.copy(a, 7, 1)),
        new Named("copy to", (x, a) -> x.copy(7, a, 1)),
        new Named("deviceRead", (x, a) -> x.deviceRead(a)),
        new Named("deviceWrite", (x, a) -> x.deviceWrite(a, 1)),
        new Named("deviceFill", (x, a) -> x.deviceFill(a, 1, 1)),
        new Named("hint", (x, a) -> x.hint(a, 1)));

    private static final List<Named> BYTE_CALLS = List.of(
        new Named("loadByte unsigned", (x, a) -> x.loadByte(a, false)),
        new Named("loadByte signed", (x, a) -> x.loadByte(a, true)),
        new Named("storeByte", (x, a) -> x.storeByte(a, 1)));

    public static void main(String[] args) {
        Due.sentence("An address not in 0 to 255 is BAD_ADDRESS",
            () -> areRefused(WORD_CALLS, BAD_WORDS));
        Due.sentence("(and one in 0 to 255 is not)", () -> areTaken(WORD_CALLS, new int[] {0, 1, 254, 255}));
        Due.sentence("for bytes not in 0 to 1023", () -> areRefused(BYTE_CALLS, BAD_BYTES));
        Due.sentence("(and one in 0 to 1023 is not)",
            () -> areTaken(BYTE_CALLS, new int[] {0, 1, 255, 256, 1022, 1023}));
        Due.sentence("tested first", RefusalTest::addressesAreTestedFirst);
        Due.sentence("a refused call changes nothing", RefusalTest::refusedCallsChangeNothing);
        Due.sentence("Values may equal these answers", RefusalTest::valuesMayEqualTheAnswers);
        Due.end();
    }

    private static void areRefused(List<Named> calls, int[] addresses) {
        for (Named call : calls) {
            for (int address : addresses) {
                String text = call.name() + " at " + address;
                Due.answers(text, HiddenCaches.BAD_ADDRESS, x -> call.on(x, address));
            }
        }
    }

    private static void areTaken(List<Named> calls, int[] addresses) {
        for (Named call : calls) {
            for (int address : addresses) {
                HiddenCaches x = new HiddenCaches(0);
                int got = call.on(x, address);
                Due.holds(call.name() + " at " + address + " is taken, but answered " + got, got >= 0);
            }
        }
    }

    private static void addressesAreTestedFirst() {
        for (int bad : BAD_WORDS) {
            for (int n : LENGTHS) {
                Due.answers("copy(" + bad + ", 0, " + n + ")", HiddenCaches.BAD_ADDRESS, x -> x.copy(bad, 0, n));
                Due.answers("copy(0, " + bad + ", " + n + ")", HiddenCaches.BAD_ADDRESS, x -> x.copy(0, bad, n));
                Due.answers("copy(255, " + bad + ", " + n + ")", HiddenCaches.BAD_ADDRESS,
                    x -> x.copy(255, bad, n));
                Due.answers("deviceFill(" + bad + ", " + n + ", 1)", HiddenCaches.BAD_ADDRESS,
                    x -> x.deviceFill(bad, n, 1));
            }
        }
    }

    private static void refusedCallsChangeNothing() {
        for (Named call : WORD_CALLS) {
            for (int bad : BAD_WORDS) {
                Due.changesNothing(call.name() + " at " + bad, bad & 255, x -> call.on(x, bad));
            }
        }
        for (Named call : BYTE_CALLS) {
            for (int bad : BAD_BYTES) {
                Due.changesNothing(call.name() + " at " + bad, bad / 4 & 255, x -> call.on(x, bad));
            }
        }
        for (int n : new int[] {-1, 33, Integer.MIN_VALUE, Integer.MAX_VALUE}) {
            Due.changesNothing("copy(0, 100, " + n + ")", 100, x -> x.copy(0, 100, n));
        }
        for (int n : new int[] {-1, 65, Integer.MIN_VALUE, Integer.MAX_VALUE}) {
            Due.changesNothing("deviceFill(100, " + n + ", 1)", 100, x -> x.deviceFill(100, n, 1));
        }
        Due.changesNothing("copy(0, 250, 7)", 250, x -> x.copy(0, 250, 7));
        Due.changesNothing("copy(250, 3, 7)", 3, x -> x.copy(250, 3, 7));
        Due.changesNothing("deviceFill(250, 7, 1)", 250, x -> x.deviceFill(250, 7, 1));
    }

    /** -1 and -2 are good values wherever a value is answered or taken. */
    private static void valuesMayEqualTheAnswers() {
        for (int word : new int[] {0, 255}) {
            for (int value : new int[] {HiddenCaches.BAD_ADDRESS, HiddenCaches.BAD_LENGTH}) {
                for (Write write : Write.ALL) {
                    isReadBack(write, word, value);
                }
            }
        }
    }

    private static void isReadBack(Write write, int word, int value) {
        HiddenCaches x = new HiddenCaches(0);
        String after = " after " + write.name() + " of " + value + " at " + word;
        write.on(x, word, value);
        Due.is("load" + after, x.load(word), value);
        Due.is("deviceRead" + after, x.deviceRead(word), value);
        Due.is("loadByte signed" + after, x.loadByte(4 * word, true), value);
        Due.is("sum" + after, x.sum(), value);
        Due.is("addTo" + after, x.addTo(word, 0), value);
        Due.is("loadReserved" + after, x.loadReserved(word), value);
        Due.is("reserved" + after, x.reserved(), word);
        Due.is("storeConditional of the same" + after, x.storeConditional(word, value), 1);
        Due.is("deviceFill of the same" + after, x.deviceFill(word, 1, value), 1);
        Due.is("copy" + after, x.copy(word, word ^ 1, 1), 1);
        Due.is("swap" + after, x.swap(word, 0), value);
        Due.is("load of the copy" + after, x.load(word ^ 1), value);
    }
}
