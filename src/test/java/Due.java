/** What the tests share: an answer is held against the one that is due. */
final class Due {
    private static int wrong = 0;

    private Due() {
    }

    static void is(String call, int got, int want) {
        if (got != want) {
            wrong++;
            System.out.println(call + " answered " + got + ", due is " + want);
        }
    }

    static void holds(String what, boolean holds) {
        if (!holds) {
            wrong++;
            System.out.println("does not hold: " + what);
        }
    }

    /** Every word, told apart from its neighbours and from each bad answer. */
    static HiddenCaches filled() {
        HiddenCaches x = new HiddenCaches(0);
        for (int a = 0; a < 256; a++) {
            x.store(a, valueOf(a));
        }
        return x;
    }

    static int valueOf(int address) {
        return (address + 1) * 0x01030507;
    }

    /** All words but those from 'first' to 'last' are as filled() left them. */
    static void restIsAsFilled(String after, HiddenCaches x, int first, int last) {
        for (int a = 0; a < 256; a++) {
            if (a < first || a > last) {
                is("load(" + a + ") after " + after, x.load(a), valueOf(a));
            }
        }
    }

    static void end() {
        System.out.println(wrong == 0 ? "all answers are as due" : wrong + " answers are not as due");
        if (wrong != 0) {
            System.exit(1);
        }
    }
}
