import java.util.Random;

/**
 * All promises: runs of calls by fixed seeds, answered by the program and by Model. Each object has 512 calls, the last
 * one that is promised among them.
 */
public final class ModelTest {
    private static final int CALLS = 330;
    private static final int CALLS_OF_A_LONG_RUN = 480;
    private static final int LAST_CALL = 512;

    private final Random random;
    private final int seed;
    private final PacketField program = new PacketField();
    private final Model model = new Model();
    private int calls = 0;

    private ModelTest(int seed) {
        this.seed = seed;
        random = new Random(seed);
    }

    public static void main(String[] args) {
        int seeds = args.length > 0 ? Integer.parseInt(args[0]) : 400;
        for (int seed = 1; seed <= seeds; seed++) {
            new ModelTest(seed).play();
        }
        for (int seed = 1; seed <= Math.max(1, seeds / 20); seed++) {
            new ModelTest(-seed).playLong();
        }
        Harness.finish();
    }

    private void same(int promise, String call, long got, long want) {
        calls++;
        Harness.due(promise, "seed " + seed + ", call " + calls + ": " + call, got, want);
    }

    private int below(int n) {
        return random.nextInt(n);
    }

    private boolean chance(int percent) {
        return below(100) < percent;
    }

    /** A station, now and then none. */
    private int who() {
        return chance(3) ? new int[] {-1, 6, -2, Integer.MAX_VALUE, Integer.MIN_VALUE}[below(5)] : below(6);
    }

    private int other(int s) {
        int o = who();
        return o == s && chance(90) ? (s + 1) % 6 : o;
    }

    private void play() {
        tuneAll();
        int style = below(5);
        while (calls < CALLS) {
            int kind = below(100);
            if (kind < 26) {
                run();
            } else if (kind < 40) {
                link(style);
            } else if (kind < 62) {
                content(style);
            } else if (kind < 70 + 4 * style) {
                raw();
            } else if (kind < 92) {
                look();
            } else if (kind < 95) {
                frames();
            } else {
                settings();
            }
        }
        lookToTheLastCall();
    }

    /** Some 300,000 TICKS, for what comes of counts and times that have grown great. */
    private void playLong() {
        tuneAll();
        int style = below(5);
        while (calls < CALLS_OF_A_LONG_RUN) {
            int kind = below(100);
            if (kind < 60) {
                same(17, "run(1000)", program.run(1000), model.run(1000));
            } else if (kind < 72) {
                link(style);
            } else if (kind < 80) {
                content(style);
            } else if (kind < 83) {
                raw();
            } else {
                look();
            }
        }
        lookToTheLastCall();
    }

    private void lookToTheLastCall() {
        while (calls < LAST_CALL) {
            look();
        }
    }

    private void tuneAll() {
        int shape = below(3);
        int t = new int[] {100, 400, 1500}[below(3)];
        int rate = new int[] {0, 0, 1, 8, 60}[below(5)];
        int fast = below(3);
        for (int s = 0; s < 6; s++) {
            for (int o = 0; o < 6 && shape > 0; o++) {
                if (o != s && (shape == 1 ? Math.abs(s - o) > 1 : chance(25))) {
                    hears(s, o, false);
                }
            }
            tune(s, 0, fast == 0 ? 256 : fast == 1 ? 60 + below(197) : 80);
            tune(s, 4, t + below(50));
            tune(s, 7, rate);
            tune(s, 8, random.nextInt());
            if (chance(25)) {
                tune(s, 6, 200 + below(600));
            }
            if (chance(20)) {
                tune(s, 2, 1 + below(16));
            }
        }
    }

    private void hears(int a, int b, boolean on) {
        same(7, "hears(" + a + ", " + b + ", " + on + ")", program.hears(a, b, on) ? 1 : 0, model.hears(a, b, on) ? 1 : 0);
    }

    private void tune(int s, int what, int v) {
        String call = "tune(" + s + ", " + what + ", " + v + ")";
        same(8, call, program.tune(s, what, v) ? 1 : 0, model.tune(s, what, v) ? 1 : 0);
    }

    private void run() {
        int n = chance(3) ? below(3) - 1 : chance(3) ? 999 + below(4) : 1 + below(chance(50) ? 1000 : 200);
        same(17, "run(" + n + ")", program.run(n), model.run(n));
    }

    private void settings() {
        int[] edges = {-1, 0, 1, 16, 17, 99, 100, 199, 200, 201, 255, 256, 257, 4096, 4097, 20000, 20001,
            Integer.MIN_VALUE, Integer.MAX_VALUE};
        if (chance(20)) {
            int a = who();
            hears(a, other(a), chance(50));
        } else {
            tune(who(), below(11) - 1, edges[below(edges.length)]);
        }
    }

    private void link(int style) {
        int s = who();
        int o = other(s);
        if (chance(75 + 4 * style)) {
            int v = chance(65) ? -1 : who();
            int w = chance(v == -1 ? 97 : 60) ? -1 : who();
            String call = "call(" + s + ", " + o + ", " + v + ", " + w + ")";
            same(10, call, program.call(s, o, v, w) ? 1 : 0, model.call(s, o, v, w) ? 1 : 0);
        } else {
            same(11, "leave(" + s + ", " + o + ")", program.leave(s, o) ? 1 : 0, model.leave(s, o) ? 1 : 0);
        }
    }

    private void content(int style) {
        int s = who();
        int o = upFrom(s);
        int kind = below(10);
        if (kind < 4) {
            tape(chance(10) ? 200 + below(5) : below(60));
            same(12, "give(" + s + ", " + o + ")", program.give(s, o), model.give(s, o));
        } else if (kind < 6) {
            int n = chance(5) ? 63 + below(3) : below(30);
            same(13, "read(" + s + ", " + o + ", " + n + ")", program.read(s, o, n), model.read(s, o, n));
        } else if (kind < 8) {
            tape(chance(10) ? below(15) : 1 + below(12));
            int d = who();
            same(14, "letter(" + s + ", " + d + ")", program.letter(s, d), model.letter(s, d));
        } else if (kind < 9 && chance(30)) {
            same(15, "take(" + s + ")", program.take(s), model.take(s));
        } else {
            same(16, "beacon(" + s + ")", program.beacon(s), model.beacon(s));
        }
    }

    /** Rather one to which s has a LINK that is UP. */
    private int upFrom(int s) {
        int o = other(s);
        for (int i = 0; i < 8 && model.link(s, o, 0) != 2; i++) {
            o = other(s);
        }
        return o;
    }

    private void tape(int count) {
        int[] row = new int[count];
        for (int i = 0; i < count; i++) {
            row[i] = below(256);
        }
        tape(row);
    }

    private void tape(int[] row) {
        for (int at = 0; at < row.length; at += 20) {
            int[] v = new int[5];
            for (int i = 0; i < 20; i++) {
                v[i / 4] = v[i / 4] << 8 | (at + i < row.length ? row[at + i] : below(256));
            }
            same(2, "feed", program.feed(v[0], v[1], v[2], v[3], v[4]) ? 1 : 0, model.feed(v) ? 1 : 0);
        }
        same(3, "end(" + row.length + ")", program.end(row.length) ? 1 : 0, model.end(row.length) ? 1 : 0);
    }

    private void raw() {
        tape(rawFrame());
        int s = who();
        same(9, "raw(" + s + ")", program.raw(s) ? 1 : 0, model.raw(s) ? 1 : 0);
        if (chance(60)) {
            run();
        }
    }

    /** A FRAME that fits a LINK as it is, or nearly. */
    private int[] rawFrame() {
        int to = below(6);
        int from = (to + 1 + below(5)) % 6;
        boolean command = chance(50);
        int seen = model.link(to, from, 13);
        int mark = chance(70) ? seen : chance(50) ? seen + 1 & 255 : below(256);
        int n = chance(50) ? 16 : 0;
        int r = chance(60) ? model.link(to, from, 1) : below(8);
        int t = chance(60) ? model.link(to, from, 3) : below(8);
        int[] vias = new int[chance(75) ? 0 : 1 + below(2)];
        for (int i = 0; i < vias.length; i++) {
            vias[i] = (to + from + 1 + i + below(3)) % 6;
        }
        int[] frame;
        int kind = below(12);
        if (kind == 0) {
            frame = Harness.frame(from, to, command, vias, below(256), mark);
        } else if (kind == 1) {
            frame = Harness.nodes(from, below(6), below(6), below(256), below(7), below(6), below(256));
        } else if (kind < 6) {
            frame = Harness.frame(from, to, chance(95), vias, informationOf(mark, 2 * t + n + 32 * r));
        } else if (kind < 8) {
            int control = new int[] {47, 67, 15, 99}[below(4)];
            boolean asDue = control == 47 || control == 67;
            frame = Harness.frame(from, to, chance(95) ? asDue : !asDue, vias, control + n, mark);
        } else {
            frame = Harness.frame(from, to, command, vias, new int[] {1, 5, 9}[below(3)] + n + 32 * r, mark);
        }
        for (int i = 0; i < vias.length && kind != 1; i++) {
            frame[20 + 7 * i] |= chance(60) ? 128 : 0;
        }
        if (chance(8)) {
            frame[below(frame.length)] ^= 1 << below(8);
        }
        return frame;
    }

    private int[] informationOf(int mark, int control) {
        int[] rest = new int[3 + (chance(5) ? below(20) : 1 + below(16))];
        for (int i = 0; i < rest.length; i++) {
            rest[i] = below(chance(70) ? 6 : 256);
        }
        rest[0] = control;
        rest[1] = mark;
        rest[2] = chance(95) ? chance(50) ? 240 : 207 : below(256);
        return rest;
    }

    private void frames() {
        int level = below(20) == 0 ? below(5) - 2 : below(2);
        if (chance(50)) {
            tape(chance(10) ? 12 + below(5) : 15 + below(78));
            same(5, "bits(" + level + ")", program.bits(level), model.bits(level));
        } else {
            unbits();
        }
        for (int i = 0; i < 3; i++) {
            look();
        }
    }

    /** The levels of a FRAME, some of them turned now and then. */
    private void unbits() {
        int[] frame = new int[15 + below(30)];
        for (int i = 0; i < frame.length; i++) {
            frame[i] = chance(30) ? 255 : below(256);
        }
        tape(frame);
        int count = model.bits(0);
        same(5, "bits(0)", program.bits(0), count);
        int[] row = new int[(count + 7) / 8];
        for (int i = 0; i < 8 * row.length; i++) {
            row[i / 8] |= (i < count ? model.out(i) : below(2)) << i % 8;
        }
        if (chance(20)) {
            row[below(row.length)] ^= 1 << below(8);
        }
        tape(row);
        same(6, "unbits()", program.unbits(), model.unbits());
    }

    private void look() {
        int s = who();
        int o = other(s);
        int kind = below(20);
        if (kind < 6) {
            int what = below(13) - 1;
            same(19, "station(" + s + ", " + what + ")", program.station(s, what), model.station(s, what));
        } else if (kind < 12) {
            int what = below(18) - 1;
            same(20, "link(" + s + ", " + o + ", " + what + ")", program.link(s, o, what), model.link(s, o, what));
        } else if (kind < 14) {
            int n = other(s);
            int what = below(20) == 0 ? below(5) - 2 : below(2);
            String call = "route(" + s + ", " + o + ", " + n + ", " + what + ")";
            same(21, call, program.route(s, o, n, what), model.route(s, o, n, what));
        } else if (kind < 15) {
            same(22, "best(" + s + ", " + o + ")", program.best(s, o), model.best(s, o));
        } else if (kind < 18) {
            int k = below(6) - 1;
            int i = below(36) - 1;
            same(23, "queued(" + s + ", " + k + ", " + i + ")", program.queued(s, k, i), model.queued(s, k, i));
        } else if (kind < 19) {
            int i = below(200) - 1;
            same(4, "out(" + i + ")", program.out(i), model.out(i));
        } else {
            same(18, "time()", program.time(), model.time());
        }
    }
}
