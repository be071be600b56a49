import java.util.ArrayList;
import java.util.List;

/**
 * What the tests share: an object of PacketField whose answers are compared with those that are due,
 * and FRAMES as the document builds them. It keeps count of the calls, for after 512 of them answers are free.
 */
final class Harness {
    static final int NONE = -1;
    static final int SABM = 47;
    static final int DISC = 67;
    static final int DM = 15;
    static final int UA = 99;
    static final int RR = 1;
    static final int RNR = 5;
    static final int REJ = 9;
    static final int POLL = 16;

    private static int wrong = 0;
    private static int compared = 0;

    final PacketField field = new PacketField();
    private int calls = 0;

    // ---- Comparing

    static void due(int promise, String what, long got, long want) {
        compared++;
        if (got != want) {
            wrong++;
            System.out.println("promise " + promise + ": " + what + " answered " + got + ", due is " + want);
        }
    }

    static void due(int promise, String what, boolean got, boolean want) {
        due(promise, what, got ? 1 : 0, want ? 1 : 0);
    }

    static void dueRow(int promise, String what, int[] got, int[] want) {
        compared++;
        if (!java.util.Arrays.equals(got, want)) {
            wrong++;
            System.out.println("promise " + promise + ": " + what + " is " + java.util.Arrays.toString(got)
                    + ", due is " + java.util.Arrays.toString(want));
        }
    }

    static void finish() {
        System.out.println(wrong == 0 ? compared + " answers are as due" : wrong + " answers are not as due");
        if (wrong != 0 || compared == 0) {
            System.exit(1);
        }
    }

    // ---- Calls

    PacketField call() {
        calls++;
        if (calls > 512) {
            throw new IllegalStateException("a test makes more than 512 calls on one object");
        }
        return field;
    }

    /** How many calls this object may still have. */
    int left() {
        return 512 - calls;
    }

    int run(int n) {
        return call().run(n);
    }

    /** TICKS in which a station hears NOISE, by a RATE that is on for these alone. */
    int runWithNoise(int station, int n) {
        call().tune(station, 7, 4096);
        int arrived = run(n);
        call().tune(station, 7, 0);
        return arrived;
    }

    boolean raw(int station, int... frame) {
        tape(frame);
        return call().raw(station);
    }

    int letter(int s, int d, int... text) {
        tape(text);
        return call().letter(s, d);
    }

    int give(int s, int o, int... bytes) {
        tape(bytes);
        return call().give(s, o);
    }

    int station(int k, int what) {
        return call().station(k, what);
    }

    int link(int s, int o, int what) {
        return call().link(s, o, what);
    }

    /** Makes the TAPE, which is empty, hold just these BYTES. */
    void tape(int... bytes) {
        for (int at = 0; at < bytes.length; at += 20) {
            int[] five = new int[5];
            for (int i = 0; i < 20; i++) {
                int value = at + i < bytes.length ? bytes[at + i] : 0;
                five[i / 4] = five[i / 4] << 8 | value & 255;
            }
            if (!call().feed(five[0], five[1], five[2], five[3], five[4])) {
                throw new IllegalStateException("feed was refused");
            }
        }
        if (!call().end(bytes.length)) {
            throw new IllegalStateException("end was refused");
        }
    }

    /** The OUT, all of it. */
    int[] out() {
        List<Integer> row = new ArrayList<>();
        for (int i = 0; i < 1000; i++) {
            int b = call().out(i);
            if (b == NONE) {
                break;
            }
            row.add(b);
        }
        return array(row);
    }

    /** FRAME k of a QUEUE, all of it. */
    int[] queued(int station, int k) {
        List<Integer> row = new ArrayList<>();
        for (int i = 0; i < 100; i++) {
            int b = call().queued(station, k, i);
            if (b == NONE) {
                break;
            }
            row.add(b);
        }
        return array(row);
    }

    // ---- FRAMES

    static int[] array(List<Integer> row) {
        int[] all = new int[row.size()];
        for (int i = 0; i < all.length; i++) {
            all[i] = row.get(i);
        }
        return all;
    }

    static int[] join(int[]... rows) {
        List<Integer> all = new ArrayList<>();
        for (int[] row : rows) {
            for (int b : row) {
                all.add(b);
            }
        }
        return array(all);
    }

    /** So many BYTES, each one more than the one ahead. */
    static int[] row(int count, int from) {
        int[] all = new int[count];
        for (int i = 0; i < count; i++) {
            all[i] = from + i & 255;
        }
        return all;
    }

    static int[] bytes(int... all) {
        return all;
    }

    static int[] address(String name, int seventh) {
        int[] row = new int[7];
        for (int i = 0; i < 6; i++) {
            row[i] = 2 * name.charAt(i);
        }
        row[6] = seventh;
        return row;
    }

    static int[] stationAddress(int k, int more) {
        return address("FIELD ", 96 + 2 * k + more);
    }

    /** A FRAME whose VIAS are not REPEATED; rest is CONTROL and what is behind it. */
    static int[] frame(int from, int to, boolean command, int[] vias, int... rest) {
        int[] all = join(stationAddress(to, command ? 128 : 0),
                stationAddress(from, (command ? 0 : 128) + (vias.length == 0 ? 1 : 0)));
        for (int i = 0; i < vias.length; i++) {
            all = join(all, stationAddress(vias[i], i == vias.length - 1 ? 1 : 0));
        }
        return join(all, rest);
    }

    static int[] command(int from, int to, int... rest) {
        return frame(from, to, true, new int[0], rest);
    }

    static int[] response(int from, int to, int... rest) {
        return frame(from, to, false, new int[0], rest);
    }

    static int[] nodes(int from, int... rest) {
        return join(address("NODES ", 96 + 128), stationAddress(from, 1), bytes(3, 207, 255), rest);
    }
}
