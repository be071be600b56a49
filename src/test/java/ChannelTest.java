import java.util.ArrayList;
import java.util.List;

/** Promises 7, 8, 9, 17, 18, 19 and 23: who sends when, who hears what. */
public final class ChannelTest {
    /** A BAD one, so that none ANSWERS. */
    private static final int[] PLAIN = Harness.command(0, 1, 99, 7);

    public static void main(String[] args) {
        tuneEdges();
        hearsRefused();
        rawAndQueued();
        runAndTime();
        lookingRefused();
        ticksOfOneFrame();
        leadAsItBegins();
        drawsAtFirst();
        chanceAtFirst();
        waitsAndDraws();
        drawIsTuned();
        fourFramesAtMost();
        carrierHoldsBack();
        hiddenStationsCollide();
        whoHears();
        sendingHearsNothing();
        onesEndWithoutCarrier();
        levelStays();
        noise();
        noiseAlways();
        stray();
        framesInARowAreNoStrays();
        Harness.finish();
    }

    private static void dueStation(Harness h, int s, int what, int want) {
        Harness.due(19, "station(" + s + ", " + what + ")", h.station(s, what), want);
    }

    private static void raw(Harness h, int s, int[] frame) {
        h.tape(frame);
        Harness.due(9, "raw(" + s + ")", h.call().raw(s), true);
    }

    private static void tuneEdges() {
        int low = Integer.MIN_VALUE;
        int high = Integer.MAX_VALUE;
        int[][] good = {{0, 0}, {0, 256}, {1, 1}, {1, 200}, {2, 1}, {2, 16}, {3, low}, {3, high}, {3, 0}, {4, 100},
            {4, 20000}, {5, 1}, {5, 255}, {6, 0}, {6, 200}, {6, 20000}, {7, 0}, {7, 4096}, {8, low}, {8, high}};
        int[][] bad = {{0, -1}, {0, 257}, {1, 0}, {1, 201}, {2, 0}, {2, 17}, {4, 99}, {4, 20001}, {5, 0}, {5, 256},
            {6, -1}, {6, 1}, {6, 199}, {6, 20001}, {7, -1}, {7, 4097}, {-1, 1}, {9, 1}, {low, 0}, {high, 0}};
        Harness h = new Harness();
        for (int[] g : good) {
            Harness.due(8, "tune(3, " + g[0] + ", " + g[1] + ")", h.call().tune(3, g[0], g[1]), true);
        }
        for (int[] b : bad) {
            Harness.due(8, "tune(3, " + b[0] + ", " + b[1] + ")", h.call().tune(3, b[0], b[1]), false);
        }
        for (int s : new int[] {-1, 6, low, high}) {
            Harness.due(8, "tune(" + s + ", 0, 80)", h.call().tune(s, 0, 80), false);
        }
    }

    private static void hearsRefused() {
        Harness h = new Harness();
        int[][] bad = {{0, 0}, {5, 5}, {-1, 0}, {0, -1}, {6, 0}, {0, 6}, {-1, -1}, {Integer.MIN_VALUE, 1}, {1, Integer.MAX_VALUE}};
        for (int[] b : bad) {
            Harness.due(7, "hears(" + b[0] + ", " + b[1] + ", true)", h.call().hears(b[0], b[1], true), false);
            Harness.due(7, "hears(" + b[0] + ", " + b[1] + ", false)", h.call().hears(b[0], b[1], false), false);
        }
        Harness.due(7, "hears(0, 5, true)", h.call().hears(0, 5, true), true);
        Harness.due(7, "hears(5, 0, false)", h.call().hears(5, 0, false), true);
    }

    private static int[] numbered(int k, int count) {
        int[] row = new int[count];
        for (int i = 0; i < count; i++) {
            row[i] = 16 * k + i & 255;
        }
        return row;
    }

    private static void rawAndQueued() {
        Harness h = new Harness();
        for (int k : new int[] {-1, 6}) {
            h.tape(PLAIN);
            Harness.due(9, "raw(" + k + ")", h.call().raw(k), false);
        }
        for (int count : new int[] {0, 14, 91, 200}) {
            h.tape(numbered(1, count));
            Harness.due(9, "raw(0) of " + count, h.call().raw(0), false);
        }
        for (int k = 0; k < 12; k++) {
            raw(h, 0, numbered(k, k == 11 ? 90 : 15));
            dueStation(h, 0, 1, k + 1);
        }
        h.tape(PLAIN);
        Harness.due(9, "a raw(0) beyond 12", h.call().raw(0), false);
        dueStation(h, 0, 1, 12);
        dueStation(h, 0, 9, 0);
        for (int k = 0; k < 12; k++) {
            Harness.due(23, "queued(0, " + k + ", 3)", h.call().queued(0, k, 3), numbered(k, 15)[3]);
            Harness.due(23, "queued(0, " + k + ", 14)", h.call().queued(0, k, 14), numbered(k, 15)[14]);
        }
        int[][] none = {{-1, 0, 0}, {6, 0, 0}, {0, -1, 0}, {0, 12, 0}, {0, 0, -1}, {0, 0, 15}, {0, 11, 90}, {1, 0, 0},
            {0, Integer.MAX_VALUE, 0}, {0, 0, Integer.MIN_VALUE}};
        for (int[] n : none) {
            Harness.due(23, "queued(" + n[0] + ", " + n[1] + ", " + n[2] + ")", h.call().queued(n[0], n[1], n[2]), -1);
        }
        Harness.due(23, "queued(0, 11, 89)", h.call().queued(0, 11, 89), numbered(11, 90)[89]);
        // The first one goes, the others come a place nearer; room is used again.
        h.call().tune(0, 0, 256);
        h.run(17);
        dueStation(h, 0, 1, 11);
        Harness.due(23, "queued(0, 0, 0) then", h.call().queued(0, 0, 0), 16);
        raw(h, 0, PLAIN);
        Harness.due(23, "queued(0, 11, 0)", h.call().queued(0, 11, 0), PLAIN[0]);
        Harness.due(23, "queued(0, 11, 15)", h.call().queued(0, 11, 15), 7);
        Harness.due(23, "queued(0, 11, 16)", h.call().queued(0, 11, 16), -1);
    }

    private static void runAndTime() {
        Harness h = new Harness();
        for (int n : new int[] {0, -1, 1001, Integer.MIN_VALUE, Integer.MAX_VALUE}) {
            Harness.due(17, "run(" + n + ")", h.run(n), -1);
        }
        Harness.due(18, "time()", h.call().time(), 0);
        Harness.due(17, "run(1)", h.run(1), 0);
        Harness.due(18, "time()", h.call().time(), 1);
        Harness.due(17, "run(1000)", h.run(1000), 0);
        Harness.due(18, "time()", h.call().time(), 1001);
    }

    private static void lookingRefused() {
        Harness h = new Harness();
        for (int what : new int[] {-1, 11, Integer.MIN_VALUE, Integer.MAX_VALUE}) {
            Harness.due(19, "station(0, " + what + ")", h.station(0, what), -1);
        }
        for (int s : new int[] {-1, 6, Integer.MIN_VALUE, Integer.MAX_VALUE}) {
            Harness.due(19, "station(" + s + ", 0)", h.station(s, 0), -1);
        }
    }

    private static void ticksOfOneFrame() {
        Harness h = new Harness();
        int bits = Model.bitsOf(PLAIN).size();
        h.call().tune(0, 0, 256);
        raw(h, 0, PLAIN);
        h.run(1);
        dueStation(h, 0, 0, 1);
        dueStation(h, 0, 2, 0);
        dueStation(h, 1, 0, 0);
        dueStation(h, 1, 2, 1);
        h.run(15);
        dueStation(h, 0, 1, 1);
        dueStation(h, 0, 5, 0);
        h.run(1);
        dueStation(h, 0, 1, 0);
        dueStation(h, 0, 5, 1);
        Harness.due(17, "run up to the last bit but one", h.run(bits + 6), 0);
        dueStation(h, 1, 6, 0);
        Harness.due(17, "run of the last bit", h.run(1), 5);
        for (int k = 1; k < 6; k++) {
            dueStation(h, k, 6, 1);
            dueStation(h, k, 7, 0);
        }
        dueStation(h, 0, 6, 0);
        dueStation(h, 0, 0, 1);
        h.run(1);
        dueStation(h, 0, 0, 0);
        dueStation(h, 1, 2, 0);
    }

    private static void leadAsItBegins() {
        Harness h = new Harness();
        h.call().tune(2, 0, 256);
        h.call().tune(2, 2, 5);
        raw(h, 2, PLAIN);
        h.run(1);
        h.call().tune(2, 2, 1);
        h.run(39);
        dueStation(h, 2, 5, 0);
        h.run(1);
        dueStation(h, 2, 5, 1);
    }

    /** DRAW is 1 .. 6 at first: the first draws' upper BYTES are 65, 131, 197, 7, 72, 138. */
    private static void drawsAtFirst() {
        int[] draws = {65, 131, 197, 7, 72, 138};
        for (int s = 0; s < 6; s++) {
            for (int more = 0; more < 2; more++) {
                Harness h = new Harness();
                h.call().tune(s, 0, draws[s] + more);
                raw(h, s, PLAIN);
                h.run(1);
                dueStation(h, s, 0, more);
                dueStation(h, s, 4, more == 1 ? 0 : 20);
            }
            Harness h = new Harness();
            raw(h, s, PLAIN);
            h.run(1);
            dueStation(h, s, 0, draws[s] < 80 ? 1 : 0);
        }
    }

    /** CHANCE is 80: draws of 79 and of 80. */
    private static void chanceAtFirst() {
        for (int upper = 79; upper <= 80; upper++) {
            int draw = 0;
            while ((draw * 1103515245 + 12345) >>> 24 != upper) {
                draw++;
            }
            Harness h = new Harness();
            h.call().tune(5, 3, draw);
            raw(h, 5, PLAIN);
            h.run(1);
            dueStation(h, 5, 0, upper < 80 ? 1 : 0);
        }
    }

    private static void waitsAndDraws() {
        Harness h = new Harness();
        h.call().tune(1, 1, 7);
        h.call().tune(1, 0, 0);
        h.run(50);
        dueStation(h, 1, 4, 0);
        raw(h, 1, PLAIN);
        h.run(1);
        dueStation(h, 1, 4, 7);
        h.run(1);
        dueStation(h, 1, 4, 6);
        h.run(6);
        dueStation(h, 1, 4, 0);
        h.run(1);
        dueStation(h, 1, 4, 7);
        dueStation(h, 1, 0, 0);
        h.call().tune(1, 0, 256);
        h.run(7);
        dueStation(h, 1, 0, 0);
        h.run(1);
        dueStation(h, 1, 0, 1);
    }

    private static void drawIsTuned() {
        // DRAW goes on from draw to draw: the upper BYTES of those from 0 on.
        int draw = 0;
        for (int k = 0; k < 6; k++) {
            draw = draw * 1103515245 + 12345;
            for (int more = 0; more < 2; more++) {
                Harness h = new Harness();
                h.call().tune(4, 3, 0);
                h.call().tune(4, 1, 1);
                h.call().tune(4, 0, 0);
                raw(h, 4, PLAIN);
                if (k > 0) {
                    h.run(2 * k);
                }
                h.call().tune(4, 0, (draw >>> 24) + more);
                h.run(1);
                dueStation(h, 4, 0, more);
            }
        }
        Harness h = new Harness();
        h.call().tune(4, 0, 1);
        h.call().tune(4, 3, -1103527591);
        raw(h, 4, PLAIN);
        int next = -1103527591 * 1103515245 + 12345;
        h.run(1);
        dueStation(h, 4, 0, next >>> 24 < 1 ? 1 : 0);
    }

    private static void fourFramesAtMost() {
        Harness h = new Harness();
        int bits = Model.bitsOf(PLAIN).size();
        h.call().tune(3, 0, 256);
        for (int i = 0; i < 6; i++) {
            raw(h, 3, PLAIN);
        }
        Harness.due(17, "run of two FLAGS", h.run(16), 0);
        for (int i = 0; i < 4; i++) {
            Harness.due(17, "run of a FRAME", h.run(bits + 8), 5);
            dueStation(h, 3, 5, i + 1);
        }
        dueStation(h, 3, 0, 1);
        h.run(1);
        dueStation(h, 3, 0, 0);
        dueStation(h, 3, 1, 2);
        h.run(1);
        dueStation(h, 3, 0, 1);
        h.run(16);
        dueStation(h, 3, 5, 5);
        dueStation(h, 3, 1, 1);
    }

    private static void carrierHoldsBack() {
        Harness h = new Harness();
        int bits = Model.bitsOf(PLAIN).size();
        h.call().tune(0, 0, 256);
        h.call().tune(1, 0, 256);
        h.call().tune(2, 0, 0);
        raw(h, 0, PLAIN);
        raw(h, 2, PLAIN);
        h.run(1);
        dueStation(h, 2, 4, 20);
        raw(h, 1, PLAIN);
        Harness.due(17, "run with a CARRIER", h.run(16 + bits + 7), 5);
        dueStation(h, 1, 0, 0);
        dueStation(h, 2, 4, 20);
        h.run(1);
        dueStation(h, 0, 0, 0);
        dueStation(h, 1, 2, 0);
        dueStation(h, 1, 0, 0);
        h.run(1);
        dueStation(h, 1, 0, 1);
        dueStation(h, 2, 4, 19);
        h.run(1);
        dueStation(h, 2, 4, 19);
    }

    private static void hiddenStationsCollide() {
        Harness h = new Harness();
        int bits = Model.bitsOf(PLAIN).size();
        h.call().tune(0, 0, 256);
        h.call().tune(2, 0, 256);
        h.call().hears(0, 2, false);
        h.call().hears(2, 0, false);
        h.call().hears(3, 2, false);
        h.call().hears(4, 0, false);
        raw(h, 0, PLAIN);
        h.run(10);
        raw(h, 2, PLAIN);
        h.run(1);
        dueStation(h, 2, 0, 1);
        Harness.due(17, "run of two at once", h.run(bits + 40), 2);
        dueStation(h, 1, 6, 0);
        dueStation(h, 3, 6, 1);
        dueStation(h, 4, 6, 1);
        dueStation(h, 5, 6, 0);
        dueStation(h, 0, 6, 0);
        dueStation(h, 2, 6, 0);
    }

    private static void whoHears() {
        Harness h = new Harness();
        h.call().tune(0, 0, 256);
        h.call().hears(1, 0, false);
        h.call().hears(0, 2, false);
        raw(h, 0, PLAIN);
        h.run(1);
        dueStation(h, 1, 2, 0);
        dueStation(h, 2, 2, 1);
        // It is a's ears that are told, not b's.
        Harness.due(17, "run", h.run(300), 4);
        dueStation(h, 1, 6, 0);
        dueStation(h, 2, 6, 1);
        h.call().hears(1, 0, true);
        raw(h, 0, PLAIN);
        Harness.due(17, "run", h.run(300), 5);
        // Without a CARRIER for a moment the FRAME is gone.
        raw(h, 0, PLAIN);
        h.run(60);
        h.call().hears(3, 0, false);
        h.run(1);
        dueStation(h, 3, 2, 0);
        h.call().hears(3, 0, true);
        Harness.due(17, "run", h.run(300), 4);
    }

    private static void sendingHearsNothing() {
        Harness h = new Harness();
        h.call().tune(0, 0, 256);
        h.call().tune(1, 0, 256);
        raw(h, 0, PLAIN);
        raw(h, 1, Harness.join(PLAIN, PLAIN, PLAIN));
        h.run(1);
        dueStation(h, 0, 2, 0);
        dueStation(h, 1, 2, 0);
        dueStation(h, 2, 2, 1);
        h.run(16 + Model.bitsOf(PLAIN).size() + 8);
        dueStation(h, 0, 0, 0);
        dueStation(h, 0, 2, 1);
        dueStation(h, 1, 6, 0);
        // Equal FLAGS at once: the exclusive-or of two equal LEVELS, so no FLAG was heard.
        h.run(600);
        dueStation(h, 2, 6, 0);
    }

    /** A CARRIER that goes behind six 1s of a FLAG, and comes with the last 0 of another one: that is no FLAG. */
    private static void onesEndWithoutCarrier() {
        Harness h = new Harness();
        h.call().tune(0, 0, 256);
        raw(h, 0, PLAIN);
        h.run(7);
        h.call().hears(3, 0, false);
        h.run(8);
        h.call().hears(3, 0, true);
        Harness.due(17, "run", h.run(300), 4);
        dueStation(h, 3, 6, 0);
    }

    private static void levelStays() {
        Harness h = new Harness();
        h.call().tune(0, 0, 256);
        raw(h, 0, PLAIN);
        int zeros = 0;
        List<Integer> sent = new ArrayList<>(Model.flag());
        sent.addAll(Model.flag());
        sent.addAll(Model.bitsOf(PLAIN));
        sent.addAll(Model.flag());
        for (int i = 0; i < sent.size(); i++) {
            h.run(1);
            zeros += 1 - sent.get(i);
            dueStation(h, 0, 3, zeros % 2);
        }
        h.run(100);
        dueStation(h, 0, 3, zeros % 2);
        // From the LEVEL on which it stays, and with the LAST that a RECEIVER keeps.
        raw(h, 0, PLAIN);
        h.run(1);
        dueStation(h, 0, 3, (zeros + 1) % 2);
        Harness.due(17, "run", h.run(300), 5);
    }

    private static boolean isNoisy(int seed, int tick, int rate) {
        return Model.hash(seed, tick) >>> 20 < rate;
    }

    /** A SEED by which in TICKS 1 .. last there is NOISE in this one alone (or in none: 0). */
    private static int seedFor(int last, int noisy, int rate) {
        for (int seed = 1; seed < 10000000; seed++) {
            boolean fits = true;
            for (int tick = 1; tick <= last && fits; tick++) {
                fits = isNoisy(seed, tick, rate) == (tick == noisy);
            }
            if (fits) {
                return seed;
            }
        }
        throw new IllegalStateException("there is no such SEED");
    }

    private static void noise() {
        int last = 16 + Model.bitsOf(PLAIN).size() + 8;
        int[][] cases = {{0, 1}, {1, 1}, {9, 0}, {16, 0}, {17, 0}, {20, 0}, {last - 8, 0}, {last, 0}};
        for (int[] c : cases) {
            Harness h = new Harness();
            h.call().tune(0, 0, 256);
            h.call().tune(3, 7, 3);
            h.call().tune(3, 8, seedFor(last, c[0], 3));
            raw(h, 0, PLAIN);
            h.run(last);
            Harness.due(8, "FRAMES with NOISE in TICK " + c[0], h.station(3, 6), c[1]);
            Harness.due(8, "FRAMES without NOISE", h.station(2, 6), 1);
        }
        // The hash, by values worked out outside of both programs.
        Harness.due(8, "HASH(1, 1)", Model.hash(1, 1), 364848542);
        Harness.due(8, "HASH(-5, 1000)", Model.hash(-5, 1000), 648618390);
    }

    private static void noiseAlways() {
        Harness h = new Harness();
        h.call().tune(0, 0, 256);
        h.call().tune(1, 7, 4096);
        raw(h, 0, PLAIN);
        h.run(300);
        dueStation(h, 1, 6, 1);
        dueStation(h, 1, 7, 0);
    }

    /**
     * A FRAME inside another one: behind it and its CHECK a BYTE 126, in which NOISE turns the level of the 0 that
     * is put behind five 1s, and that makes it a FLAG.
     */
    private static void stray() {
        int[] inner = Harness.bytes(1, 2, 3, 4, 5, 6, 7, 8, 9, 10, 11, 12, 13, 14, 16);
        int check = Model.check(inner);
        int[] outer = Harness.join(inner, Harness.bytes(check & 255, check >> 8, 126, 0, 0, 0));
        int noisy = 16 + Model.bitsOf(inner).size() + 6 + 1;
        int last = 16 + Model.bitsOf(outer).size() + 8;
        Harness h = new Harness();
        h.call().tune(0, 0, 256);
        h.call().tune(4, 7, 3);
        h.call().tune(4, 8, seedFor(last, noisy, 3));
        raw(h, 0, outer);
        Harness.due(17, "run up to the STRAY", h.run(noisy), 0);
        Harness.due(17, "run to the STRAY", h.run(1), 1);
        dueStation(h, 4, 6, 1);
        dueStation(h, 4, 7, 1);
        dueStation(h, 4, 8, 1);
        Harness.due(17, "run to the end", h.run(last - noisy - 1), 4);
        dueStation(h, 4, 6, 1);
        dueStation(h, 3, 6, 1);
        dueStation(h, 3, 7, 0);
    }

    private static void framesInARowAreNoStrays() {
        Harness h = new Harness();
        h.call().tune(0, 0, 256);
        raw(h, 0, PLAIN);
        raw(h, 0, Harness.join(PLAIN, Harness.bytes(1)));
        raw(h, 0, PLAIN);
        Harness.due(17, "run of three", h.run(800), 15);
        dueStation(h, 2, 6, 3);
        dueStation(h, 2, 7, 0);
        dueStation(h, 2, 8, 3);
    }
}
