import java.util.function.ToIntFunction;

/** What the tests share: an answer is held against the one that is due. */
final class Due {
    static final int NONE = -1;
    static final int[] EDGE_INTS = {0, 1, -1, -2, 127, 128, 255, 256, -128, -129, 0x12345678,
        Integer.MAX_VALUE, Integer.MIN_VALUE};

    private static int wrong = 0;

    private Due() {
    }

    static void is(String call, int got, int want) {
        if (got != want) {
            wrong++;
            System.out.println(call + " answered " + got + ", due is " + want);
        }
    }

    static void holds(String what, boolean holds) {
        if (!holds) {
            wrong++;
            System.out.println("does not hold: " + what);
        }
    }

    /** A sentence of the document, with the test that is its own. A call that throws breaks it too. */
    static void sentence(String words, Runnable test) {
        int before = wrong;
        try {
            test.run();
        } catch (RuntimeException thrown) {
            wrong++;
            thrown.printStackTrace(System.out);
        }
        System.out.println((wrong == before ? "holds: " : "BROKEN: ") + words);
    }

    /** Every word, told apart from its neighbours and from each bad answer. */
    static HiddenCaches filled() {
        return filled(0);
    }

    static HiddenCaches filled(int shape) {
        HiddenCaches x = new HiddenCaches(shape);
        for (int a = 0; a < 256; a++) {
            x.store(a, valueOf(a));
        }
        return x;
    }

    static HiddenCaches filledAndReserved(int word) {
        HiddenCaches x = filled();
        if (word != NONE) {
            x.loadReserved(word);
        }
        return x;
    }

    static int valueOf(int address) {
        return (address + 1) * 0x01030507;
    }

    /**
     * All words but those from 'first' to 'last' are as filled() left them: by their sum,
     * and one by one for the near ones and some others. To load all of them would take
     * the object beyond the 512 calls that the document promises anything for.
     */
    static void restIsAsFilled(String after, HiddenCaches x, int first, int last) {
        int got = x.sum();
        int want = 0;
        for (int a = 0; a < 256; a++) {
            boolean outside = a < first || a > last;
            boolean near = a >= first - 4 && a <= last + 4;
            if (!outside) {
                got -= x.load(a);
            } else {
                want += valueOf(a);
            }
            if (outside && (near || a % 8 == 0)) {
                is("load(" + a + ") after " + after, x.load(a), valueOf(a));
            }
        }
        is("the sum of the other words after " + after, got, want);
    }

    static void allIsAsFilled(String after, HiddenCaches x) {
        restIsAsFilled(after, x, 256, 255);
    }

    /** The answer, whichever word is reserved, none among them. */
    static void answers(String call, int want, ToIntFunction<HiddenCaches> made) {
        for (int word : new int[] {NONE, 0, 255}) {
            is(call + ", reserved " + word, made.applyAsInt(filledAndReserved(word)), want);
        }
    }

    /** No word and no reservation is changed by the call; 'near' is a word that it might write. */
    static void changesNothing(String call, int near, ToIntFunction<HiddenCaches> made) {
        for (int word : new int[] {NONE, 0, near, 255}) {
            HiddenCaches x = filledAndReserved(word);
            made.applyAsInt(x);
            String after = call + ", reserved " + word;
            is("reserved() after " + after, x.reserved(), word);
            allIsAsFilled(after, x);
            is("load(" + near + ") after " + after, x.load(near), valueOf(near));
            if (word != NONE) {
                is("storeConditional(" + word + ", 9) after " + after, x.storeConditional(word, 9), 1);
            }
        }
    }

    static void end() {
        System.out.println(wrong == 0 ? "all answers are as due" : wrong + " answers are not as due");
        if (wrong != 0) {
            System.exit(1);
        }
    }
}
