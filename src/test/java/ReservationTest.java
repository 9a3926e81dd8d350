import java.util.function.Consumer;

/** Promises 8, 9 and 16: the reservation, what takes it away and what leaves it. */
public final class ReservationTest {
    public static void main(String[] args) {
        reserves();
        storesOnce();
        storesNothingElsewhere();
        for (int word : new int[] {0, 1, 100, 200, 255}) {
            everyWriteLoses(word);
            nothingElseLoses(word);
        }
        refusedCallsKeepIt();
        Due.end();
    }

    private static void reserves() {
        HiddenCaches x = Due.filled();
        for (int a = 0; a < 256; a += 3) {
            Due.is("loadReserved(" + a + ")", x.loadReserved(a), Due.valueOf(a));
            Due.is("reserved()", x.reserved(), a);
        }
        x = new HiddenCaches(0);
        x.deviceWrite(7, 70);
        Due.is("loadReserved(7) after deviceWrite", x.loadReserved(7), 70);
        x.loadReserved(8);
        Due.is("reserved() after a second loadReserved", x.reserved(), 8);
        Due.is("storeConditional(7, 1) to the first", x.storeConditional(7, 1), 0);
        Due.is("load(7)", x.load(7), 70);
        Due.is("storeConditional(8, 1) after that", x.storeConditional(8, 1), 0);
        Due.is("load(8)", x.load(8), 0);
    }

    private static void storesOnce() {
        for (int word : new int[] {0, 1, 255}) {
            HiddenCaches x = Due.filled();
            x.loadReserved(word);
            Due.is("storeConditional, reserved", x.storeConditional(word, -1), 1);
            Due.is("load after it", x.load(word), -1);
            Due.is("deviceRead after it", x.deviceRead(word), -1);
            Due.is("reserved() after it", x.reserved(), -1);
            Due.is("storeConditional again", x.storeConditional(word, 6), 0);
            Due.is("load after that", x.load(word), -1);
            Due.restIsAsFilled("storeConditional", x, word, word);
        }
    }

    private static void storesNothingElsewhere() {
        HiddenCaches x = Due.filled();
        Due.is("storeConditional(0, 1), none reserved", x.storeConditional(0, 1), 0);
        x.loadReserved(20);
        Due.is("storeConditional(21, 1), 20 reserved", x.storeConditional(21, 1), 0);
        Due.is("reserved() after it", x.reserved(), -1);
        Due.is("storeConditional(20, 1) after it", x.storeConditional(20, 1), 0);
        Due.allIsAsFilled("conditional stores without reservation", x);
    }

    /** Each write here leaves the value that was there, as that is a write all the same. */
    private static void everyWriteLoses(int w) {
        int v = Due.valueOf(w);
        loses("store", w, x -> x.store(w, v));
        loses("swap", w, x -> x.swap(w, v));
        loses("addTo", w, x -> x.addTo(w, 0));
        loses("deviceWrite", w, x -> x.deviceWrite(w, v));
        loses("deviceFill of one", w, x -> x.deviceFill(w, 1, v));
        loses("copy onto itself", w, x -> x.copy(w, w, 1));
        loses("storeConditional elsewhere", w, x -> x.storeConditional(w ^ 1, v));
        for (int b = 0; b < 4; b++) {
            int place = 4 * w + b;
            loses("storeByte " + b, w, x -> x.storeByte(place, v >>> 8 * (place % 4)));
        }
        if (w >= 31) {
            loses("copy, as its last word", w, x -> x.copy(w - 31, w - 31, 32));
            loses("deviceFill, as its last word", w, x -> x.deviceFill(w - 31, 32, v));
        }
        if (w <= 192) {
            loses("copy, as its first word", w, x -> x.copy(w, w, 32));
            loses("deviceFill, as its first word", w, x -> x.deviceFill(w, 64, v));
        }
        loses("store to another value and back", w, x -> {
            x.store(w, ~v);
            x.store(w, v);
        });
    }

    private static void loses(String what, int word, Consumer<HiddenCaches> call) {
        HiddenCaches x = Due.filled();
        x.loadReserved(word);
        call.accept(x);
        Due.is("reserved() after " + what + " at " + word, x.reserved(), -1);
        int before = x.load(word);
        Due.is("storeConditional after " + what + " at " + word, x.storeConditional(word, 99), 0);
        Due.is("load after " + what + " at " + word, x.load(word), before);
    }

    private static void nothingElseLoses(int w) {
        int next = w == 255 ? 254 : w + 1;
        keeps("load", w, x -> x.load(w));
        keeps("loadByte", w, x -> x.loadByte(4 * w, true));
        keeps("deviceRead", w, x -> x.deviceRead(w));
        keeps("sum", w, x -> x.sum());
        keeps("reserved", w, x -> x.reserved());
        keeps("loadReserved again", w, x -> x.loadReserved(w));
        keeps("store beside", w, x -> x.store(next, 1));
        keeps("swap beside", w, x -> x.swap(next, 1));
        keeps("addTo beside", w, x -> x.addTo(next, 1));
        keeps("storeByte beside", w, x -> x.storeByte(4 * next, 1));
        keeps("deviceWrite beside", w, x -> x.deviceWrite(next, 1));
        keeps("copy of it", w, x -> x.copy(w, next, 1));
        keeps("copy of none", w, x -> x.copy(w, w, 0));
        keeps("deviceFill of none", w, x -> x.deviceFill(w, 0, 1));
        keeps("deviceFill beside", w, x -> x.deviceFill(next, 1, 1));
        for (int how = -2; how < 8; how++) {
            int h = how;
            keeps("hint " + how, w, x -> x.hint(w, h));
        }
        if (w >= 32 && w <= 223) {
            keeps("copy up to it", w, x -> x.copy(0, w - 32, 32));
            keeps("copy from after it", w, x -> x.copy(0, w + 1, 32));
            keeps("deviceFill up to it", w, x -> x.deviceFill(w - 32, 32, 1));
            keeps("deviceFill from after it", w, x -> x.deviceFill(w + 1, 32, 1));
        }
    }

    private static void keeps(String what, int word, Consumer<HiddenCaches> call) {
        HiddenCaches x = Due.filled();
        x.loadReserved(word);
        call.accept(x);
        Due.is("reserved() after " + what + " at " + word, x.reserved(), word);
        Due.is("reserved() once more", x.reserved(), word);
        Due.is("storeConditional after " + what + " at " + word, x.storeConditional(word, 99), 1);
        Due.is("load after " + what + " at " + word, x.load(word), 99);
    }

    private static void refusedCallsKeepIt() {
        for (int bad : new int[] {-1, 256, Integer.MIN_VALUE, Integer.MAX_VALUE}) {
            keeps("loadReserved refused", 0, x -> x.loadReserved(bad));
            keeps("storeConditional refused", 0, x -> x.storeConditional(bad, 1));
        }
        keeps("copy too long", 0, x -> x.copy(1, 0, 33));
        keeps("copy beyond the end", 250, x -> x.copy(1, 250, 7));
        keeps("copy from beyond the end", 0, x -> x.copy(250, 0, 7));
        keeps("deviceFill too long", 0, x -> x.deviceFill(0, 65, 1));
        keeps("deviceFill beyond the end", 250, x -> x.deviceFill(250, 7, 1));
        HiddenCaches none = new HiddenCaches(0);
        none.storeConditional(-1, 1);
        none.loadReserved(-1);
        Due.is("reserved() after loadReserved(-1)", none.reserved(), -1);
        Due.is("storeConditional(-1, 1), none reserved", none.storeConditional(-1, 1), -1);
    }
}
