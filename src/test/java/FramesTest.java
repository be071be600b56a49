import java.util.ArrayList;
import java.util.List;

/** Promises 2 to 6: TAPE, OUT, FRAMES as levels and back. */
public final class FramesTest {
    private static final int CHECK_OF_ZEROS = 0x3c8d;

    public static void main(String[] args) {
        feedAndEnd();
        tapeIsFull();
        tapeIsEmptyBehindCallsThatLook();
        outOfRange();
        bitsOfZeros();
        bitsOfOnes();
        bitBehindTheLastOne();
        bitsRefused();
        thereAndBack();
        lengthsThatArrive();
        severalFrames();
        whatDoesNotArrive();
        rowShutBySevenOnes();
        sevenOnesInsideAFrame();
        nothingBehindTheTape();
        Harness.finish();
    }

    private static int[] ramp(int count) {
        int[] row = new int[count];
        for (int i = 0; i < count; i++) {
            row[i] = 7 * i + 250 & 255;
        }
        return row;
    }

    private static void feedAndEnd() {
        Harness h = new Harness();
        Harness.due(2, "feed", h.call().feed(0x01020304, 0x80ff7f00, -1, 0, 0x7fffffff), true);
        Harness.due(3, "end(21)", h.call().end(21), false);
        Harness.due(3, "end(-1)", h.call().end(-1), false);
        Harness.due(3, "end(MIN)", h.call().end(Integer.MIN_VALUE), false);
        Harness.due(3, "end(MAX)", h.call().end(Integer.MAX_VALUE), false);
        Harness.due(3, "end(20)", h.call().end(20), true);
        Harness.due(3, "end(19)", h.call().end(19), true);
        Harness.due(3, "end(20) behind end(19)", h.call().end(20), false);
        Harness.due(9, "raw(0)", h.call().raw(0), true);
        Harness.dueRow(2, "the TAPE", h.queued(0, 0),
                Harness.bytes(1, 2, 3, 4, 128, 255, 127, 0, 255, 255, 255, 255, 0, 0, 0, 0, 127, 255, 255));
        h.tape(Harness.bytes(9, 8, 7));
        h.call().feed(0x0a0b0c0d, 0x0e0f1011, 0x12131415, 0x16171819, 0x1a1b1c1d);
        h.call().end(16);
        h.call().raw(1);
        Harness.dueRow(2, "a TAPE that goes on behind end", h.queued(1, 0),
                Harness.bytes(9, 8, 7, 10, 11, 12, 13, 14, 15, 16, 17, 18, 19, 20, 21, 22));
    }

    private static void tapeIsFull() {
        Harness h = new Harness();
        for (int i = 0; i < 13; i++) {
            Harness.due(2, "feed " + i, h.call().feed(i, i, i, i, i), true);
        }
        Harness.due(2, "a feed beyond 260", h.call().feed(0, 0, 0, 0, 0), false);
        Harness.due(3, "end(261)", h.call().end(261), false);
        Harness.due(3, "end(260)", h.call().end(260), true);
        Harness.due(3, "end(241)", h.call().end(241), true);
        Harness.due(2, "a feed to 261", h.call().feed(0, 0, 0, 0, 0), false);
        Harness.due(3, "end(241) again", h.call().end(241), true);
        Harness.due(3, "end(240)", h.call().end(240), true);
        Harness.due(2, "a feed to 260", h.call().feed(0, 0, 0, 0, 0), true);
        Harness.due(3, "end(0)", h.call().end(0), true);
        Harness.due(3, "end(1)", h.call().end(1), false);
    }

    private static void tapeIsEmptyBehindCallsThatLook() {
        for (int kind = 0; kind < 10; kind++) {
            Harness h = new Harness();
            h.tape(ramp(kind == 9 ? 5 : 20));
            switch (kind) {
                case 0: h.call().bits(0); break;
                case 1: h.call().bits(2); break;
                case 2: h.call().unbits(); break;
                case 3: h.call().raw(0); break;
                case 4: h.call().raw(6); break;
                case 5: h.call().give(0, 1); break;
                case 6: h.call().give(0, 0); break;
                case 7: h.call().letter(0, 1); break;
                case 8: h.call().letter(-1, 1); break;
                default: h.call().letter(0, 1); break;
            }
            Harness.due(5, "the TAPE behind look " + kind, h.call().end(1), false);
        }
        Harness h = new Harness();
        h.tape(ramp(20));
        h.run(1);
        h.call().beacon(0);
        h.call().call(1, 2, -1, -1);
        h.call().read(0, 1, 3);
        h.call().take(0);
        Harness.due(5, "the TAPE behind calls that don't look", h.call().end(20), true);
    }

    private static void outOfRange() {
        Harness h = new Harness();
        Harness.due(4, "out(0) at first", h.call().out(0), -1);
        h.tape(ramp(15));
        int count = h.call().bits(0);
        Harness.due(4, "out(-1)", h.call().out(-1), -1);
        Harness.due(4, "out(MIN)", h.call().out(Integer.MIN_VALUE), -1);
        Harness.due(4, "out(MAX)", h.call().out(Integer.MAX_VALUE), -1);
        Harness.due(4, "out(count)", h.call().out(count), -1);
        Harness.due(4, "out(count - 1)", h.call().out(count - 1) >= 0, true);
    }

    private static int[] levels(List<Integer> bits, int level) {
        int[] row = new int[bits.size()];
        int now = level;
        for (int i = 0; i < row.length; i++) {
            now = bits.get(i) == 0 ? 1 - now : now;
            row[i] = now;
        }
        return row;
    }

    private static List<Integer> flagged(List<Integer> inside) {
        List<Integer> all = new ArrayList<>(Model.flag());
        all.addAll(Model.flag());
        all.addAll(inside);
        all.addAll(Model.flag());
        return all;
    }

    /** The CHECK of 15 zeros is 0x3c8d, worked out outside of both programs. */
    private static void bitsOfZeros() {
        Harness h = new Harness();
        h.tape(new int[15]);
        Harness.due(5, "bits(0) of zeros", h.call().bits(0), 3 * 8 + 17 * 8);
        List<Integer> bits = new ArrayList<>();
        for (int i = 0; i < 120; i++) {
            bits.add(0);
        }
        for (int i = 0; i < 16; i++) {
            bits.add(CHECK_OF_ZEROS >> i & 1);
        }
        Harness.dueRow(5, "levels of zeros", h.out(), levels(flagged(bits), 0));
        h.tape(new int[15]);
        h.call().bits(1);
        Harness.dueRow(5, "levels of zeros from 1 on", h.out(), levels(flagged(bits), 1));
    }

    private static void bitsOfOnes() {
        Harness h = new Harness();
        int[] ones = new int[90];
        java.util.Arrays.fill(ones, 255);
        h.tape(ones);
        List<Integer> all = flagged(Model.bitsOf(ones));
        Harness.due(5, "bits(0) of 90 ones", h.call().bits(0), all.size());
        int[] want = levels(all, 0);
        for (int i = 0; i < 400; i++) {
            Harness.due(5, "out(" + i + ")", h.call().out(i), want[i]);
        }
    }

    /** A FRAME whose CHECK ends with just five 1s: a 0 is put behind them, too. */
    private static void bitBehindTheLastOne() {
        for (int i = 0; i < 65536; i++) {
            int[] frame = ramp(15);
            frame[0] = i & 255;
            frame[1] = i >> 8;
            if (Model.check(frame) >> 8 == 0xf8) {
                Harness h = new Harness();
                h.tape(frame);
                int count = h.call().bits(0);
                int[] row = h.out();
                Harness.due(5, "levels with a 0 behind the last bit", count, row.length);
                Harness.due(5, "the levels of that 0 and the FLAG's first one", row[count - 9] != row[count - 8], true);
                Harness.due(5, "that 0", row[count - 10] != row[count - 9], true);
                h.tape(packed(row));
                Harness.due(6, "unbits() of it", h.call().unbits(), 1);
                Harness.dueRow(6, "its FRAME", h.out(), frame);
                return;
            }
        }
        Harness.due(5, "FRAMES with such a CHECK", 0, 1);
    }

    private static void bitsRefused() {
        Harness h = new Harness();
        h.tape(ramp(15));
        h.call().bits(0);
        int first = h.call().out(0);
        int[][] wrong = {{14, 0}, {91, 0}, {0, 0}, {15, -1}, {15, 2}, {90, Integer.MIN_VALUE}, {90, Integer.MAX_VALUE}};
        for (int[] w : wrong) {
            h.tape(ramp(w[0]));
            Harness.due(5, "bits(" + w[1] + ") of " + w[0], h.call().bits(w[1]), -1);
            Harness.due(5, "the OUT stays", h.call().out(0), first);
        }
        h.tape(ramp(90));
        Harness.due(5, "bits of 90", h.call().bits(1) > 0, true);
    }

    /** Levels as BYTES, filled up by the last level, which is bits 1. */
    private static int[] packed(int[] levels) {
        int[] row = new int[(levels.length + 7) / 8];
        for (int i = 0; i < 8 * row.length; i++) {
            row[i / 8] |= levels[Math.min(i, levels.length - 1)] << i % 8;
        }
        return row;
    }

    private static void thereAndBack() {
        Harness h = new Harness();
        int[] frame = Harness.command(1, 2, 63, 1);
        h.tape(frame);
        h.call().bits(0);
        int[] row = h.out();
        h.tape(packed(row));
        Harness.due(6, "unbits()", h.call().unbits(), 1);
        Harness.dueRow(6, "the OUT of unbits()", h.out(), frame);
        Harness.due(6, "unbits() without a TAPE", h.call().unbits(), 0);
        Harness.due(6, "the OUT stays", h.call().out(0), frame[0]);
    }

    private static int unbits(Harness h, List<Integer> bits) {
        h.tape(packed(levels(bits, 0)));
        return h.call().unbits();
    }

    private static void lengthsThatArrive() {
        Harness h = new Harness();
        int[] lengths = {13, 14, 15, 16, 89, 90, 91, 92};
        for (int n : lengths) {
            boolean arrives = n >= 15 && n <= 90;
            Harness.due(6, "unbits() of " + n + " BYTES", unbits(h, flagged(Model.bitsOf(ramp(n)))), arrives ? 1 : 0);
            Harness.due(6, "BYTES of the OUT", h.call().out(n - 1), arrives ? ramp(n)[n - 1] : -1);
            h.call().read(0, 1, 1);
        }
    }

    private static void severalFrames() {
        Harness h = new Harness();
        List<Integer> bits = flagged(Model.bitsOf(ramp(15)));
        bits.addAll(Model.bitsOf(ramp(20)));
        bits.addAll(Model.flag());
        bits.addAll(Model.flag());
        bits.addAll(Model.bitsOf(ramp(31)));
        bits.addAll(Model.flag());
        Harness.due(6, "unbits() of three", unbits(h, bits), 3);
        Harness.dueRow(6, "the last one", h.out(), ramp(31));
        // A RECEIVER as at first: neither its LAST nor its ROW stays from the unbits() ahead.
        List<Integer> half = new ArrayList<>(bits.subList(0, 100));
        Harness.due(6, "unbits() of a part", unbits(h, half), 0);
        Harness.due(6, "unbits() of the rest", unbits(h, bits.subList(100, 170)), 0);
        h.call().read(0, 1, 1);
        Harness.due(6, "unbits() of three again", unbits(h, bits), 3);
    }

    private static void whatDoesNotArrive() {
        Harness h = new Harness();
        List<Integer> good = flagged(Model.bitsOf(ramp(15)));
        Harness.due(6, "a FRAME", unbits(h, good), 1);
        for (int i = 16; i < good.size() - 8; i += 7) {
            List<Integer> bits = new ArrayList<>(good);
            bits.set(i, 1 - bits.get(i));
            Harness.due(6, "a FRAME with bit " + i + " turned", unbits(h, bits), 0);
        }
        Harness.due(6, "a FRAME without a FLAG ahead", unbits(h, good.subList(16, good.size())), 0);
        Harness.due(6, "a FRAME without a FLAG behind", unbits(h, good.subList(0, good.size() - 8)), 0);
        Harness.due(6, "a FRAME with one FLAG ahead", unbits(h, good.subList(8, good.size())), 1);
        List<Integer> odd = new ArrayList<>(good);
        odd.add(good.size() - 8, 0);
        Harness.due(6, "a FRAME with a bit more", unbits(h, odd), 0);
    }

    private static String plainBits(int[] frame) {
        StringBuilder text = new StringBuilder();
        int check = Model.check(frame);
        for (int b : Harness.join(frame, Harness.bytes(check & 255, check >> 8))) {
            for (int i = 0; i < 8; i++) {
                text.append(b >> i & 1);
            }
        }
        return text.toString();
    }

    /** Bits with seven 1s in a row, though their FRAME would be one if these were seven, or six. */
    private static void sevenOnesInsideAFrame() {
        for (int special : new int[] {0x7f, 0x3f}) {
            String ones = special == 0x7f ? "1111111" : "111111";
            for (int i = 0; i < 256; i++) {
                int[] frame = new int[15];
                frame[3] = special;
                frame[9] = i;
                String text = plainBits(frame);
                if (text.indexOf("11111") != text.indexOf(ones) || text.replaceFirst(ones, "").contains("11111")) {
                    continue;
                }
                List<Integer> bits = new ArrayList<>();
                for (char c : text.replaceFirst(ones, "1111111").toCharArray()) {
                    bits.add(c - '0');
                }
                Harness.due(6, "seven 1s in a FRAME, " + special + ", " + i, unbits(new Harness(), flagged(bits)), 0);
            }
        }
    }

    /** The level that would end the FLAG is the first one that the TAPE has not. */
    private static void nothingBehindTheTape() {
        int tried = 0;
        for (int i = 0; i < 65536 && tried < 5; i++) {
            int[] frame = new int[15];
            frame[0] = i & 255;
            frame[1] = i >> 8;
            int[] all = levels(flagged(Model.bitsOf(frame)), 0);
            if (all.length % 8 == 1 && all[all.length - 1] == 1) {
                Harness h = new Harness();
                h.tape(packed(java.util.Arrays.copyOf(all, all.length - 1)));
                Harness.due(6, "unbits() without the last level", h.call().unbits(), 0);
                h.tape(packed(all));
                Harness.due(6, "unbits() with the last level", h.call().unbits(), 1);
                tried++;
            }
        }
        Harness.due(6, "FRAMES of such a length", tried, 5);
    }

    private static void rowShutBySevenOnes() {
        Harness h = new Harness();
        List<Integer> frame = Model.bitsOf(ramp(15));
        List<Integer> bits = new ArrayList<>(Model.flag());
        bits.addAll(List.of(1, 1, 1, 1, 1, 1, 1, 0));
        bits.addAll(frame);
        bits.addAll(Model.flag());
        Harness.due(6, "a FRAME behind seven 1s", unbits(h, bits), 0);
        bits.addAll(frame);
        bits.addAll(Model.flag());
        Harness.due(6, "and one behind a FLAG", unbits(h, bits), 1);
        // The FLAG behind is not one if there are seven 1s in it.
        List<Integer> spoilt = new ArrayList<>(flagged(frame));
        spoilt.add(spoilt.size() - 1, 1);
        Harness.due(6, "a FLAG with seven 1s", unbits(h, spoilt), 0);
    }
}
