import java.util.ArrayList;
import java.util.List;

/**
 * The document's words taken literally, in another form than the program's: a log of
 * all writes to bytes and all reservations. A read looks for the last write to each byte.
 */
final class WriteLog {
    private enum Kind { WRITE, RESERVE, CONDITIONAL }

    private record Entry(Kind kind, int place, int value) {
    }

    private final List<Entry> log = new ArrayList<>();

    int read(int word) {
        return badWord(word) ? -1 : wordAt(word);
    }

    int write(int word, int value) {
        if (badWord(word)) {
            return -1;
        }
        logWord(word, value);
        return 0;
    }

    int readByte(int place, boolean signed) {
        if (place < 0 || place > 1023) {
            return -1;
        }
        int value = byteAt(place);
        return signed && value > 127 ? value - 256 : value;
    }

    int writeByte(int place, int value) {
        if (place < 0 || place > 1023) {
            return -1;
        }
        log.add(new Entry(Kind.WRITE, place, Math.floorMod(value, 256)));
        return 0;
    }

    int swap(int word, int value) {
        int before = read(word);
        write(word, value);
        return before;
    }

    int add(int word, int value) {
        write(word, badWord(word) ? 0 : wordAt(word) + value);
        return read(word);
    }

    int reserve(int word) {
        if (!badWord(word)) {
            log.add(new Entry(Kind.RESERVE, word, 0));
        }
        return read(word);
    }

    int conditional(int word, int value) {
        if (badWord(word)) {
            return -1;
        }
        boolean held = reserved() == word;
        if (held) {
            logWord(word, value);
        }
        log.add(new Entry(Kind.CONDITIONAL, 0, 0));
        return held ? 1 : 0;
    }

    int copy(int from, int to, int n) {
        if (badWord(from) || badWord(to)) {
            return -1;
        }
        if (n < 0 || n > 32 || n > 256 - from || n > 256 - to) {
            return -2;
        }
        for (int i = 0; i < n; i++) {
            logWord(to + i, wordAt(from + i));
        }
        return n;
    }

    int fill(int word, int n, int value) {
        if (badWord(word)) {
            return -1;
        }
        if (n < 0 || n > 64 || n > 256 - word) {
            return -2;
        }
        for (int i = 0; i < n; i++) {
            logWord(word + i, value);
        }
        return n;
    }

    int sum() {
        long total = 0;
        for (int word = 0; word < 256; word++) {
            total += wordAt(word);
        }
        return (int) total;
    }

    int reserved() {
        for (int i = log.size() - 1; i >= 0; i--) {
            Entry entry = log.get(i);
            if (entry.kind == Kind.CONDITIONAL) {
                return -1;
            }
            if (entry.kind == Kind.RESERVE) {
                return writtenSince(i, entry.place) ? -1 : entry.place;
            }
        }
        return -1;
    }

    private boolean writtenSince(int start, int word) {
        for (Entry entry : log.subList(start, log.size())) {
            if (entry.kind == Kind.WRITE && entry.place / 4 == word) {
                return true;
            }
        }
        return false;
    }

    private void logWord(int word, int value) {
        for (int b = 0; b < 4; b++) {
            log.add(new Entry(Kind.WRITE, 4 * word + b, value >>> 8 * b & 255));
        }
    }

    private int wordAt(int word) {
        int value = 0;
        for (int b = 3; b >= 0; b--) {
            value = value * 256 + byteAt(4 * word + b);
        }
        return value;
    }

    private int byteAt(int place) {
        for (int i = log.size() - 1; i >= 0; i--) {
            Entry entry = log.get(i);
            if (entry.kind == Kind.WRITE && entry.place == place) {
                return entry.value;
            }
        }
        return 0;
    }

    private static boolean badWord(int word) {
        return word < 0 || word > 255;
    }
}
