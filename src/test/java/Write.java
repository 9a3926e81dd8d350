import java.util.List;

/** Each way in which either side writes a word, so that a test can take all of them in turn. */
record Write(String name, How how) {
    interface How {
        void write(HiddenCaches x, int word, int value);
    }

    static final List<Write> ALL = List.of(
        new Write("store", (x, w, v) -> x.store(w, v)),
        new Write("storeByte of all four", Write::byBytes),
        new Write("swap", (x, w, v) -> x.swap(w, v)),
        new Write("addTo", (x, w, v) -> x.addTo(w, v - x.load(w))),
        new Write("storeConditional", Write::conditionally),
        new Write("copy", Write::byCopy),
        new Write("deviceWrite", (x, w, v) -> x.deviceWrite(w, v)),
        new Write("deviceFill", (x, w, v) -> x.deviceFill(w, 1, v)));

    void on(HiddenCaches x, int word, int value) {
        how.write(x, word, value);
    }

    private static void byBytes(HiddenCaches x, int word, int value) {
        for (int b = 0; b < 4; b++) {
            x.storeByte(4 * word + b, value >> 8 * b);
        }
    }

    private static void conditionally(HiddenCaches x, int word, int value) {
        x.loadReserved(word);
        x.storeConditional(word, value);
    }

    /** By way of another word, which is given its own value back. */
    private static void byCopy(HiddenCaches x, int word, int value) {
        int other = word ^ 64;
        int before = x.swap(other, value);
        x.copy(other, word, 1);
        x.store(other, before);
    }
}
