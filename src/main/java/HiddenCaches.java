// No cache is modelled: none may be seen, and every read gives what was written
// last by either side, which is just what one array shared by both sides does.
public final class HiddenCaches {
    public static final int BAD_ADDRESS = -1;
    public static final int BAD_LENGTH = -2;

    private static final int WORDS = 256;
    private static final int BYTES = 1024;
    private static final int LONGEST_COPY = 32;
    private static final int LONGEST_FILL = 64;
    private static final int NONE = -1;

    private final int[] words = new int[WORDS];
    private int reservedWord = NONE;

    // The shape is not kept, as no answer may depend on it.
    public HiddenCaches(int shape) {
    }

    public int load(int address) {
        if (!isWord(address)) {
            return BAD_ADDRESS;
        }
        return words[address];
    }

    public int store(int address, int value) {
        if (!isWord(address)) {
            return BAD_ADDRESS;
        }
        write(address, value);
        return 0;
    }

    public int loadByte(int byteAddress, boolean signed) {
        if (!isByte(byteAddress)) {
            return BAD_ADDRESS;
        }
        int shifted = words[wordOf(byteAddress)] >>> shiftOf(byteAddress);
        return signed ? (byte) shifted : shifted & 255;
    }

    public int storeByte(int byteAddress, int value) {
        if (!isByte(byteAddress)) {
            return BAD_ADDRESS;
        }
        int word = wordOf(byteAddress);
        int shift = shiftOf(byteAddress);
        int others = words[word] & ~(255 << shift);
        write(word, others | (value & 255) << shift);
        return 0;
    }

    public int swap(int address, int value) {
        if (!isWord(address)) {
            return BAD_ADDRESS;
        }
        int before = words[address];
        write(address, value);
        return before;
    }

    public int addTo(int address, int value) {
        if (!isWord(address)) {
            return BAD_ADDRESS;
        }
        write(address, words[address] + value);
        return words[address];
    }

    public int loadReserved(int address) {
        if (!isWord(address)) {
            return BAD_ADDRESS;
        }
        reservedWord = address;
        return words[address];
    }

    public int storeConditional(int address, int value) {
        if (!isWord(address)) {
            return BAD_ADDRESS;
        }
        boolean held = reservedWord == address;
        if (held) {
            write(address, value);
        }
        // A conditional store to another word costs the reservation too.
        reservedWord = NONE;
        return held ? 1 : 0;
    }

    public int copy(int from, int to, int n) {
        if (!isWord(from) || !isWord(to)) {
            return BAD_ADDRESS;
        }
        if (!isLength(n, LONGEST_COPY) || !fits(from, n) || !fits(to, n)) {
            return BAD_LENGTH;
        }
        // Ascending even where the ranges overlap: a word written early is read again later.
        for (int i = 0; i < n; i++) {
            write(to + i, words[from + i]);
        }
        return n;
    }

    public int deviceRead(int address) {
        if (!isWord(address)) {
            return BAD_ADDRESS;
        }
        return words[address];
    }

    public int deviceWrite(int address, int value) {
        if (!isWord(address)) {
            return BAD_ADDRESS;
        }
        write(address, value);
        return 0;
    }

    public int deviceFill(int address, int n, int value) {
        if (!isWord(address)) {
            return BAD_ADDRESS;
        }
        if (!isLength(n, LONGEST_FILL) || !fits(address, n)) {
            return BAD_LENGTH;
        }
        for (int i = 0; i < n; i++) {
            write(address + i, value);
        }
        return n;
    }

    public int hint(int address, int how) {
        return isWord(address) ? 0 : BAD_ADDRESS;
    }

    public int sum() {
        int total = 0;
        for (int i = 0; i < WORDS; i++) {
            total += words[i];
        }
        return total;
    }

    public int reserved() {
        return reservedWord;
    }

    // Every write goes through here, since any write to the reserved word,
    // even of the value it already has, costs the reservation.
    private void write(int address, int value) {
        words[address] = value;
        if (reservedWord == address) {
            reservedWord = NONE;
        }
    }

    private static boolean isWord(int address) {
        return address >= 0 && address < WORDS;
    }

    private static boolean isByte(int byteAddress) {
        return byteAddress >= 0 && byteAddress < BYTES;
    }

    private static boolean isLength(int n, int longest) {
        return n >= 0 && n <= longest;
    }

    // Asked only of a good address and length, so the sum can't wrap.
    private static boolean fits(int address, int n) {
        return address + n <= WORDS;
    }

    private static int wordOf(int byteAddress) {
        return byteAddress / 4;
    }

    private static int shiftOf(int byteAddress) {
        return 8 * (byteAddress % 4);
    }
}
