/** Promise 1: all words 0, no reservation, and a shape that changes nothing. */
public final class NewObjectTest {
    private static final int[] SHAPES = {0, 1, 2, 3, 4, 7, 16, 255, 256, 1 << 20, -1, -2,
        Integer.MAX_VALUE, Integer.MIN_VALUE};

    public static void main(String[] args) {
        for (int shape : SHAPES) {
            startsEmpty(shape);
            answersAsShapeZero(shape);
        }
        objectsAreApart();
        Due.end();
    }

    private static void startsEmpty(int shape) {
        HiddenCaches x = new HiddenCaches(shape);
        Due.is("shape " + shape + ": reserved()", x.reserved(), -1);
        Due.is("shape " + shape + ": sum()", x.sum(), 0);
        Due.is("shape " + shape + ": storeConditional(0, 5)", x.storeConditional(0, 5), 0);
        for (int a = 0; a < 256; a++) {
            Due.is("shape " + shape + ": load(" + a + ")", x.load(a), 0);
        }
    }

    private static void answersAsShapeZero(int shape) {
        HiddenCaches zero = new HiddenCaches(0);
        HiddenCaches other = new HiddenCaches(shape);
        Numbers numbers = new Numbers(77);
        for (int i = 0; i < 500; i++) {
            Calls call = Calls.any(numbers);
            Due.is("shape " + shape + ", call " + i + ": " + call, call.on(other), call.on(zero));
        }
    }

    private static void objectsAreApart() {
        HiddenCaches one = new HiddenCaches(0);
        HiddenCaches two = new HiddenCaches(0);
        one.store(3, 9);
        one.loadReserved(3);
        Due.is("load(3) of another object", two.load(3), 0);
        Due.is("reserved() of another object", two.reserved(), -1);
    }
}
