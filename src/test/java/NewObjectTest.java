/** Promise 1: a new object. */
public final class NewObjectTest {
    private static final int[] SHAPES = {0, 1, 2, 3, 4, 7, 8, 15, 16, 31, 32, 63, 64, 255, 256, 257, 1 << 20,
        -1, -2, -256, Integer.MAX_VALUE, Integer.MAX_VALUE - 1, Integer.MIN_VALUE, Integer.MIN_VALUE + 1};

    public static void main(String[] args) {
        Due.sentence("Promise 1: 'shape' changes nothing that any call answers", () -> {
            for (int shape : SHAPES) {
                startsAtZero(shape);
                keepsEveryWord(shape);
                answersAsTheLog(shape);
            }
        });
        Due.sentence("Promise 1: No reservation", NewObjectTest::startsWithoutReservation);
        Due.sentence("(a new object shares nothing with another)", NewObjectTest::objectsAreApart);
        Due.end();
    }

    private static void startsAtZero(int shape) {
        HiddenCaches x = new HiddenCaches(shape);
        Due.is("shape " + shape + ": sum()", x.sum(), 0);
        for (int a = 0; a < 256; a++) {
            Due.is("shape " + shape + ": load(" + a + ")", x.load(a), 0);
        }
    }

    private static void keepsEveryWord(int shape) {
        HiddenCaches x = Due.filled(shape);
        for (int a = 0; a < 256; a++) {
            Due.is("shape " + shape + ": deviceRead(" + a + ")", x.deviceRead(a), Due.valueOf(a));
        }
    }

    private static void answersAsTheLog(int shape) {
        HiddenCaches x = new HiddenCaches(shape);
        WriteLog log = new WriteLog();
        Numbers numbers = new Numbers(77);
        for (int i = 0; i < 512; i++) {
            Calls call = Calls.any(numbers);
            Due.is("shape " + shape + ", call " + i + ": " + call, call.on(x), call.on(log));
        }
    }

    private static void startsWithoutReservation() {
        for (int shape : SHAPES) {
            Due.is("shape " + shape + ": reserved()", new HiddenCaches(shape).reserved(), -1);
            for (int word : new int[] {0, 1, 254, 255}) {
                HiddenCaches x = new HiddenCaches(shape);
                String call = "shape " + shape + ": storeConditional(" + word + ", 5)";
                Due.is(call, x.storeConditional(word, 5), 0);
                Due.is("load after " + call, x.load(word), 0);
            }
        }
    }

    private static void objectsAreApart() {
        HiddenCaches one = new HiddenCaches(0);
        HiddenCaches two = new HiddenCaches(0);
        one.store(3, 9);
        one.loadReserved(3);
        Due.is("load(3) of another object", two.load(3), 0);
        Due.is("reserved() of another object", two.reserved(), -1);
        two.storeConditional(3, 8);
        Due.is("load(3) of the first object", one.load(3), 9);
        Due.is("reserved() of the first object", one.reserved(), 3);
    }
}
