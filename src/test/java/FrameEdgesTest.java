import java.util.Arrays;

/** Boundary cases of part I and of promises 2 to 6: a method for each sentence, which stands above it. */
public final class FrameEdgesTest {
    private static final String FLAG = Bits.FLAG;
    private static final int LOW = Integer.MIN_VALUE;
    private static final int HIGH = Integer.MAX_VALUE;

    public static void main(String[] args) {
        tapeOf260();
        tapeByItsHighestBytes();
        endBeyondTheTape();
        outWithout();
        bitsOf15To90();
        bitsFrom0Or1();
        zeroBehindFiveOnes();
        zeroBehindTheLastBit();
        nothingInAFlag();
        fiveOnesAreOfOneFrame();
        receiverAtFirst();
        onesFour();
        onesFive();
        onesSix();
        onesSeven();
        onesSevenWithinARow();
        wholeBytesAlone();
        lastSevenBitsAreAny();
        bytes17To92();
        bit744();
        checkOfThoseAhead();
        openInAnyCase();
        emptyInAnyCase();
        outOfTheLastOne();
        outStaysWithoutOne();
        Harness.finish();
    }

    /** A FRAME of ordinary BYTES in which nothing is put between, not even in its CHECK. */
    private static int[] smooth(int count) {
        return Bits.find(count, f -> !Bits.plain(Bits.withCheck(f)).contains("11111"));
    }

    private static void dueTape(int promise, Harness h, int size) {
        Harness.due(promise, "end(" + (size + 1) + ") of a TAPE of " + size, h.call().end(size + 1), false);
        Harness.due(promise, "end(" + size + ") of it", h.call().end(size), true);
    }

    /** "Twenty BYTES come to the TAPE ..; false if it would have more than 260." */
    private static void tapeOf260() {
        for (int size : new int[] {0, 1, 239, 240, 241, 242, 259, 260}) {
            Harness h = new Harness();
            h.tape(Harness.row(size, 1));
            boolean fits = size + 20 <= 260;
            Harness.due(2, "feed to a TAPE of " + size, h.call().feed(-1, -1, -1, -1, -1), fits);
            dueTape(2, h, fits ? size + 20 : size);
        }
        // What was there stays when there is no room.
        Harness h = new Harness();
        h.tape(Harness.row(241, 1));
        h.call().feed(-1, -1, -1, -1, -1);
        h.call().end(90);
        h.call().raw(0);
        Harness.dueRow(2, "a TAPE to which nothing came", h.queued(0, 0), Harness.row(90, 1));
    }

    /** "of each number the highest first" */
    private static void tapeByItsHighestBytes() {
        Harness h = new Harness();
        h.call().feed(LOW, HIGH, -1, 0x00ff0001, 0xff00fe00);
        h.call().raw(0);
        Harness.dueRow(2, "the TAPE", h.queued(0, 0), Harness.bytes(128, 0, 0, 0, 127, 255, 255, 255, 255, 255, 255, 255,
                0, 255, 0, 1, 255, 0, 254, 0));
    }

    /** "The TAPE has its first n BYTES alone: true; false if it has not so many, or n is below 0." */
    private static void endBeyondTheTape() {
        for (int size : new int[] {0, 1, 20, 259, 260}) {
            Harness h = new Harness();
            h.tape(Harness.row(size, 1));
            for (int n : new int[] {-1, LOW, size + 1, HIGH}) {
                Harness.due(3, "end(" + n + ") of " + size, h.call().end(n), false);
            }
            Harness.due(3, "end(" + size + ") of " + size, h.call().end(size), true);
            Harness.due(3, "end(0) of " + size, h.call().end(0), true);
            Harness.due(3, "end(1) of none", h.call().end(1), false);
            Harness.due(3, "end(0) of none", h.call().end(0), true);
        }
    }

    /** "BYTE i of the OUT (what was put there latest; none at first); NONE without." */
    private static void outWithout() {
        Harness h = new Harness();
        for (int i : new int[] {-1, 0, 1, LOW, HIGH}) {
            Harness.due(4, "out(" + i + ") at first", h.call().out(i), -1);
        }
        h.letter(0, 0, 71, 72, 73);
        h.call().take(0);
        int[][] due = {{-1, -1}, {0, 71}, {2, 73}, {3, -1}, {LOW, -1}, {HIGH, -1}};
        for (int[] d : due) {
            Harness.due(4, "out(" + d[0] + ") of three", h.call().out(d[0]), d[1]);
        }
        // What is put there is less than what was there.
        h.letter(0, 0, 81);
        h.call().take(0);
        Harness.due(4, "out(0) of one", h.call().out(0), 81);
        Harness.due(4, "out(1) of one", h.call().out(1), -1);
        h.call().read(0, 1, 1);
        Harness.due(4, "out(0) of none", h.call().out(0), -1);
    }

    /** "A FRAME has 15 to 90"; "NONE if it has not 15 .. 90 BYTES" */
    private static void bitsOf15To90() {
        Harness h = new Harness();
        for (int count : new int[] {0, 1, 14, 15, 16, 89, 90, 91, 92}) {
            int[] frame = Harness.row(count, 1);
            h.tape(frame);
            boolean fits = count >= 15 && count <= 90;
            Harness.due(5, "bits(0) of " + count, h.call().bits(0), fits ? 24 + Bits.of(frame).length() : -1);
            Harness.due(5, "the TAPE behind it", h.call().end(1), false);
        }
        h.tape(Harness.row(260, 1));
        Harness.due(5, "bits(0) of 260", h.call().bits(0), -1);
    }

    /** "going on from a level"; "NONE if .. level is not 0, 1" */
    private static void bitsFrom0Or1() {
        int[] frame = smooth(15);
        for (int level : new int[] {LOW, -1, 0, 1, 2, HIGH}) {
            Harness h = new Harness();
            h.tape(frame);
            boolean fits = level == 0 || level == 1;
            Harness.due(5, "bits(" + level + ")", h.call().bits(level), fits ? 24 + 136 : -1);
            Harness.due(5, "the TAPE behind it", h.call().end(1), false);
            int[] due = fits ? Bits.levels(FLAG + FLAG + Bits.of(frame) + FLAG, level) : new int[0];
            Harness.dueRow(5, "levels from " + level, h.out(), due);
            Harness.due(5, "the first of them", due.length == 0 ? 0 : due[0], fits ? 1 - level : 0);
        }
    }

    private static String bitsOf(Harness h, int[] frame) {
        h.tape(frame);
        h.call().bits(0);
        return Bits.fromLevels(h.out(), 0);
    }

    /** "behind each five 1s in a row a 0 is put between" */
    private static void zeroBehindFiveOnes() {
        Object[][] due = {
            {Harness.bytes(0x0f, 0), "1111000000000000"},
            {Harness.bytes(0x1f, 0), "111110" + "00000000000"},
            {Harness.bytes(0x3f, 0), "111110" + "1" + "0000000000"},
            {Harness.bytes(0xf0, 0), "0000111100000000"},
            {Harness.bytes(0xf0, 1), "0000" + "111110" + "0000000"},
            {Harness.bytes(0xff, 1), "111110" + "1111" + "0000000"},
            {Harness.bytes(0xff, 3), "111110" + "111110" + "000000"},
            {Harness.bytes(0xff, 7), "111110" + "111110" + "1" + "00000"},
            // The 0 that is put between ends a row of 1s, and is no end of the BYTE's bits.
            {Harness.bytes(0xdf, 3), "111110" + "0" + "1111" + "000000"}};
        for (Object[] d : due) {
            Harness h = new Harness();
            int[] frame = Arrays.copyOf((int[]) d[0], 15);
            String want = (String) d[1];
            String got = bitsOf(h, frame);
            Harness.due(5, "bits of " + Arrays.toString(frame) + ": " + got, got.startsWith(FLAG + FLAG + want), true);
            Harness.due(5, "all of them", got.equals(FLAG + FLAG + Bits.of(frame) + FLAG), true);
        }
    }

    /** "(also behind the last bit)": with four, five, six, nine and ten 1s at the end of the CHECK. */
    private static void zeroBehindTheLastBit() {
        for (int ones : new int[] {3, 4, 5, 6, 9, 10}) {
            int[] frame = Bits.find(15, f -> Model.check(f) >> 15 - ones == (1 << ones + 1) - 2);
            String tail = "0" + "1".repeat(ones);
            Harness.due(5, "a CHECK with " + ones + " 1s", Bits.plain(Bits.withCheck(frame)).endsWith(tail), true);
            String got = bitsOf(new Harness(), frame);
            Harness.due(5, "its end: " + got, got.endsWith(tail.replace("11111", "111110") + FLAG), true);
            Harness.due(6, "unbits() of it", Bits.unbits(new Harness(), FLAG + Bits.of(frame) + FLAG), 1);
        }
    }

    /** "A FLAG: 0 1 1 1 1 1 1 0 (nothing is put between)." */
    private static void nothingInAFlag() {
        int[] frame = new int[15];
        String got = bitsOf(new Harness(), frame);
        Harness.due(5, "two FLAGS ahead, one behind: " + got,
                got.startsWith("0111111001111110" + "00000000") && got.endsWith("01111110"), true);
        Harness.due(5, "how many bits", got.length(), 8 + 8 + 120 + 16 + 8);
    }

    /** "behind each five 1s in a row": those of a FRAME sent before, and of a FLAG, are not of this row. */
    private static void fiveOnesAreOfOneFrame() {
        Harness h = new Harness();
        int[] first = Bits.find(15, f -> Model.check(f) >> 11 == 0x1e);
        int[] second = smooth(15);
        second[0] = 1;
        second[1] = 0;
        bitsOf(h, first);
        String got = bitsOf(h, second);
        Harness.due(5, "a FRAME that begins with a 1: " + got, got.startsWith(FLAG + FLAG + "1000000000000000"), true);
    }

    /** "A RECEIVER has LAST, a level (0 at first), ONES (0), and a ROW of bits, .. (SHUT at first)." */
    private static void receiverAtFirst() {
        String frame = Bits.of(smooth(15));
        Harness h = new Harness();
        Object[][] due = {{"", 0}, {"11111" + "0", 0}, {"111111" + "0", 1}, {"1111111" + "0", 0}, {FLAG, 1},
            {"1" + FLAG, 1}, {"0" + FLAG, 1}};
        for (Object[] d : due) {
            // The same again, so that the next RECEIVER is seen to be as at first, too.
            for (int i = 0; i < 2; i++) {
                Harness.due(6, "unbits() with " + d[0] + " ahead", Bits.unbits(h, d[0] + frame + FLAG), (int) d[1]);
            }
            Bits.unbits(h, FLAG + "1");
        }
    }

    private static int arrives(String row) {
        return Bits.unbits(new Harness(), FLAG + row + FLAG);
    }

    /** A FRAME with just so many 1s from its fourth BYTE on, and nowhere else four in a row. */
    private static int[] withOnes(int ones) {
        for (int i = 0; i < 65536; i++) {
            int[] frame = new int[15];
            frame[0] = i & 255;
            frame[1] = i >> 8;
            frame[3] = (1 << ones) - 1 & 255;
            frame[4] = (1 << ones) - 1 >> 8;
            String rest = Bits.plain(Bits.withCheck(frame)).replaceFirst("0" + "1".repeat(ones) + "0", "00");
            if (!rest.contains("1111")) {
                return frame;
            }
        }
        throw new IllegalStateException("there is no such FRAME");
    }

    /** "Else the 0 comes to the ROW": behind four 1s. */
    private static void onesFour() {
        int[] frame = withOnes(4);
        Harness h = new Harness();
        Harness.due(6, "four 1s and a 0", Bits.unbits(h, FLAG + Bits.plain(Bits.withCheck(frame)) + FLAG), 1);
        Harness.dueRow(6, "the FRAME with four 1s", h.out(), frame);
        Harness.due(6, "a 0 more behind them", arrives(Bits.plain(Bits.withCheck(frame)).replace("1111", "11110")), 0);
    }

    /** "If ONES is 5: nothing more." */
    private static void onesFive() {
        for (int ones : new int[] {5, 6, 7, 10}) {
            int[] frame = withOnes(ones);
            Harness h = new Harness();
            Harness.due(6, ones + " 1s, a 0 behind five", Bits.unbits(h, FLAG + Bits.of(frame) + FLAG), 1);
            Harness.dueRow(6, "the FRAME with " + ones + " 1s", h.out(), frame);
        }
        String plain = Bits.plain(Bits.withCheck(withOnes(5)));
        Harness.due(6, "five 1s and no 0 more", arrives(plain), 0);
        Harness.due(6, "five 1s and two 0s more", arrives(plain.replace("11111", "1111100")), 0);
    }

    /** "A 0: if ONES is 6, that was a FLAG" */
    private static void onesSix() {
        int[] frame = smooth(15);
        String row = Bits.of(frame);
        Harness.due(6, "six 1s behind", arrives(row), 1);
        Harness.due(6, "five 1s behind", Bits.unbits(new Harness(), FLAG + row + "0" + "11111" + "0"), 0);
        Harness.due(6, "seven 1s behind", Bits.unbits(new Harness(), FLAG + row + "0" + "1111111" + "0"), 0);
        // A FLAG in the midst of a FRAME, whose ROW begins anew there.
        Harness.due(6, "six 1s within", arrives(row.substring(0, 40) + FLAG + row.substring(40)), 0);
        Harness.due(6, "six 1s within, a FRAME behind", arrives(row.substring(0, 40) + FLAG + row), 1);
    }

    /** "if it is 7 or more the ROW is SHUT" */
    private static void onesSeven() {
        String row = Bits.of(smooth(15));
        for (int ones : new int[] {7, 8, 9, 14, 15, 40}) {
            String spoilt = FLAG + "1".repeat(ones) + "0" + row + FLAG;
            Harness.due(6, "a FRAME behind " + ones + " 1s", Bits.unbits(new Harness(), spoilt), 0);
            Harness.due(6, "and another one behind the FLAG", Bits.unbits(new Harness(), spoilt + row + FLAG), 1);
            // Six 1s then are a FLAG again.
            String again = FLAG + "1".repeat(ones) + "0" + "111111" + "0" + row + FLAG;
            Harness.due(6, "a FLAG behind " + ones + " 1s", Bits.unbits(new Harness(), again), 1);
        }
    }

    /** "if it is 7 or more the ROW is SHUT": also when what came ahead and behind is a FRAME together. */
    private static void onesSevenWithinARow() {
        String row = Bits.of(withOnes(7));
        Harness.due(6, "seven 1s, a 0 behind five", arrives(row), 1);
        Harness.due(6, "seven 1s and no 0", arrives(row.replace("1111101", "111111")), 0);
        // The seventh one does not come to the ROW: with the six ahead of it, it would be a FRAME.
        String six = Bits.plain(Bits.withCheck(withOnes(6)));
        for (int ones = 6; ones <= 9; ones++) {
            Harness.due(6, ones + " 1s for six", arrives(six.replace("111111", "1".repeat(ones))), 0);
        }
        for (String ones : new String[] {"1111111", "11111111", "111111111"}) {
            Harness.due(6, ones + " ahead of a FRAME's bits", arrives(row.substring(0, 32) + ones + row.substring(32)), 0);
        }
    }

    /** "without its last seven bits it has 8 * n" */
    private static void wholeBytesAlone() {
        String row = Bits.of(smooth(20));
        Harness.due(6, "8 * 22 bits", arrives(row), 1);
        for (int less = 1; less <= 8; less++) {
            Harness.due(6, less + " bits fewer ahead", arrives(row.substring(less)), 0);
            Harness.due(6, less + " bits fewer behind", arrives(row.substring(0, row.length() - less)), 0);
            Harness.due(6, less + " bits more ahead", arrives("0".repeat(less) + row), 0);
            Harness.due(6, less + " bits more behind", arrives(row + "0".repeat(less)), 0);
        }
    }

    /** "without its last seven bits": whatever they are, here seven 1s, as one 0 has not come to the ROW. */
    private static void lastSevenBitsAreAny() {
        int[] frame = Bits.find(15, f -> Model.check(f) >> 11 == 0x1e);
        Harness h = new Harness();
        Harness.due(6, "a FRAME, a 1, and six 1s", Bits.unbits(h, FLAG + Bits.of(frame) + "10" + "1111110"), 1);
        Harness.dueRow(6, "that FRAME", h.out(), frame);
    }

    /** "n 17 .. 92" */
    private static void bytes17To92() {
        for (int n : new int[] {2, 3, 16, 17, 18, 91, 92, 93, 94}) {
            int[] frame = Harness.row(n - 2, 1);
            Harness h = new Harness();
            h.letter(0, 0, 5);
            h.call().take(0);
            boolean arrives = n >= 17 && n <= 92;
            Harness.due(6, "unbits() of n " + n, Bits.unbits(h, FLAG + Bits.of(frame) + FLAG), arrives ? 1 : 0);
            Harness.dueRow(6, "the OUT then", h.out(), arrives ? frame : Harness.bytes(5));
        }
    }

    /** "a 744th bit SHUTS it": 92 BYTES and seven bits are 743. */
    private static void bit744() {
        int[] frame = smooth(90);
        String row = Bits.of(frame);
        Harness.due(6, "bits of 92 BYTES", row.length(), 736);
        Harness.due(6, "a ROW of 743", arrives(row), 1);
        for (int more : new int[] {1, 7, 8, 9, 736, 744}) {
            Harness.due(6, "a ROW of 743 and " + more + " ahead", arrives("0".repeat(more) + row), 0);
            Harness.due(6, "a ROW of 743 and " + more + " behind", arrives(row + "0".repeat(more)), 0);
        }
        // A FLAG opens it again.
        String next = Bits.of(smooth(15));
        Harness.due(6, "a FRAME behind a ROW that was SHUT", arrives("0".repeat(1500) + FLAG + next), 1);
        Harness.due(6, "a FRAME behind 744 bits", arrives("0".repeat(737) + FLAG + next), 1);
        Harness.due(6, "a FRAME behind 743 bits", arrives("0".repeat(736) + FLAG + next), 1);
        Harness.due(6, "two ROWS of 743", arrives(row + FLAG + row), 2);
    }

    /** "the last two of these BYTES are the CHECK of those ahead (lower, higher)" */
    private static void checkOfThoseAhead() {
        int[] whole = Bits.withCheck(Harness.row(15, 1));
        Harness.due(6, "the CHECK", arrives(Bits.stuffed(Bits.plain(whole))), 1);
        for (int bit = 0; bit < 8 * 17; bit++) {
            int[] turned = whole.clone();
            turned[bit / 8] ^= 1 << bit % 8;
            Harness.due(6, "a FRAME with bit " + bit + " turned", arrives(Bits.stuffed(Bits.plain(turned))), 0);
        }
        int[] swapped = whole.clone();
        swapped[15] = whole[16];
        swapped[16] = whole[15];
        Harness.due(6, "a CHECK the higher first", arrives(Bits.stuffed(Bits.plain(swapped))), 0);
    }

    /** "in any case the ROW is OPEN .. then" */
    private static void openInAnyCase() {
        String row = Bits.of(smooth(15));
        Harness h = new Harness();
        Harness.due(6, "FRAME, FLAG, FRAME", Bits.unbits(h, FLAG + row + FLAG + row + FLAG), 2);
        Harness.due(6, "bits without a CHECK, FLAG, FRAME", Bits.unbits(h, FLAG + "0".repeat(136) + FLAG + row + FLAG), 1);
        Harness.due(6, "a few bits, FLAG, FRAME", Bits.unbits(h, FLAG + "010" + FLAG + row + FLAG), 1);
        Harness.due(6, "SHUT, FLAG, FRAME", Bits.unbits(h, "0101" + FLAG + row + FLAG), 1);
        Harness.due(6, "three FLAGS, FRAME", Bits.unbits(h, FLAG + FLAG + FLAG + row + FLAG), 1);
        // One 0 may end a FLAG and begin the next one: that ROW has six bits, fewer than seven.
        Harness.due(6, "FLAGS with one 0 between", Bits.unbits(h, FLAG + "1111110" + "1111110" + row + FLAG), 1);
    }

    /** "in any case the ROW is .. empty then" */
    private static void emptyInAnyCase() {
        String row = Bits.of(smooth(15));
        Harness h = new Harness();
        for (int cut = 8; cut < row.length(); cut += 8) {
            String parts = FLAG + row.substring(0, cut) + FLAG + row.substring(cut) + FLAG;
            Harness.due(6, "a FRAME in two parts, cut at " + cut, Bits.unbits(h, parts), 0);
        }
        // Behind a FRAME that has ARRIVED, a FLAG alone brings it not once more.
        Harness.due(6, "FRAME, two FLAGS", Bits.unbits(h, FLAG + row + FLAG + FLAG), 1);
    }

    /** "how many FRAMES ARRIVE; the OUT is the last one of these" */
    private static void outOfTheLastOne() {
        Harness h = new Harness();
        String all = FLAG;
        for (int i = 0; i < 3; i++) {
            all += Bits.of(Harness.row(17 - i, i)) + FLAG;
        }
        Harness.due(6, "unbits() of three", Bits.unbits(h, all), 3);
        Harness.dueRow(6, "the last one", h.out(), Harness.row(15, 2));
        Harness.due(6, "unbits() of three and a broken one", Bits.unbits(h, all + "0".repeat(136) + FLAG), 3);
        Harness.dueRow(6, "the last one that ARRIVES", h.out(), Harness.row(15, 2));
    }

    /** "(it stays without one)" */
    private static void outStaysWithoutOne() {
        Harness h = new Harness();
        Harness.due(6, "unbits() of no TAPE", h.call().unbits(), 0);
        Harness.due(6, "the OUT", h.call().out(0), -1);
        Bits.unbits(h, FLAG + Bits.of(Harness.row(15, 9)) + FLAG);
        h.letter(0, 0, 33, 44);
        h.call().take(0);
        Harness.due(6, "unbits() of no TAPE", h.call().unbits(), 0);
        Harness.dueRow(6, "the OUT that stays", h.out(), Harness.bytes(33, 44));
        h.tape(Harness.row(260, 0));
        Harness.due(6, "unbits() of a full TAPE without a FRAME", h.call().unbits(), 0);
        Harness.dueRow(6, "the OUT that stays", h.out(), Harness.bytes(33, 44));
        Harness.due(6, "the TAPE behind it", h.call().end(1), false);
    }
}
