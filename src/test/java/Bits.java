import java.util.function.Predicate;

/** Bits as a text of 0s and 1s, for tests that make and break them by hand. */
final class Bits {
    static final String FLAG = "01111110";

    private Bits() {
    }

    /** Of each BYTE the lowest bit first; nothing is put between. */
    static String plain(int... bytes) {
        StringBuilder text = new StringBuilder();
        for (int b : bytes) {
            for (int i = 0; i < 8; i++) {
                text.append(b >> i & 1);
            }
        }
        return text.toString();
    }

    static String stuffed(String plain) {
        return plain.replace("11111", "111110");
    }

    static int[] withCheck(int... frame) {
        int check = Model.check(frame);
        return Harness.join(frame, Harness.bytes(check & 255, check >> 8));
    }

    /** A FRAME's BITS, without FLAGS. */
    static String of(int... frame) {
        return stuffed(plain(withCheck(frame)));
    }

    static int[] levels(String bits, int level) {
        int[] row = new int[bits.length()];
        int now = level;
        for (int i = 0; i < row.length; i++) {
            now = bits.charAt(i) == '0' ? 1 - now : now;
            row[i] = now;
        }
        return row;
    }

    /** Which bits these levels are, going on from a level. */
    static String fromLevels(int[] levels, int level) {
        StringBuilder text = new StringBuilder();
        int last = level;
        for (int now : levels) {
            text.append(now == last ? '1' : '0');
            last = now;
        }
        return text.toString();
    }

    /** Levels as BYTES, filled up by the last level, which is at most seven bits 1. */
    static int[] packed(int[] levels) {
        int[] row = new int[(levels.length + 7) / 8];
        for (int i = 0; i < 8 * row.length; i++) {
            row[i / 8] |= levels[Math.min(i, levels.length - 1)] << i % 8;
        }
        return row;
    }

    static int unbits(Harness h, String bits) {
        h.tape(packed(levels(bits, 0)));
        return h.call().unbits();
    }

    /** A FRAME of so many BYTES that is as asked, by its first two BYTES; the others have no three 1s in a row. */
    static int[] find(int count, Predicate<int[]> asked) {
        for (int i = 0; i < 65536; i++) {
            int[] frame = new int[count];
            for (int k = 2; k < count; k++) {
                frame[k] = 7 * k + 40 & 0x6d;
            }
            frame[0] = i & 255;
            frame[1] = i >> 8;
            if (asked.test(frame)) {
                return frame;
            }
        }
        throw new IllegalStateException("there is no such FRAME");
    }
}
