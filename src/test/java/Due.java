/** What the tests share: an answer is held against the one that is due. */
final class Due {
    private static int wrong = 0;

    private Due() {
    }

    static void is(String call, int got, int want) {
        if (got != want) {
            wrong++;
            System.out.println(call + " answered " + got + ", due is " + want);
        }
    }

    static void holds(String what, boolean holds) {
        if (!holds) {
            wrong++;
            System.out.println("does not hold: " + what);
        }
    }

    /** Every word, told apart from its neighbours and from each bad answer. */
    static HiddenCaches filled() {
        HiddenCaches x = new HiddenCaches(0);
        for (int a = 0; a < 256; a++) {
            x.store(a, valueOf(a));
        }
        return x;
    }

    static int valueOf(int address) {
        return (address + 1) * 0x01030507;
    }

    /**
     * All words but those from 'first' to 'last' are as filled() left them: by their sum,
     * and one by one for the near ones and some others. To load all of them would take
     * the object beyond the 512 calls that the document promises anything for.
     */
    static void restIsAsFilled(String after, HiddenCaches x, int first, int last) {
        int got = x.sum();
        int want = 0;
        for (int a = 0; a < 256; a++) {
            boolean outside = a < first || a > last;
            boolean near = a >= first - 4 && a <= last + 4;
            if (!outside) {
                got -= x.load(a);
            } else {
                want += valueOf(a);
            }
            if (outside && (near || a % 8 == 0)) {
                is("load(" + a + ") after " + after, x.load(a), valueOf(a));
            }
        }
        is("the sum of the other words after " + after, got, want);
    }

    static void allIsAsFilled(String after, HiddenCaches x) {
        restIsAsFilled(after, x, 256, 255);
    }

    static void end() {
        System.out.println(wrong == 0 ? "all answers are as due" : wrong + " answers are not as due");
        if (wrong != 0) {
            System.exit(1);
        }
    }
}
