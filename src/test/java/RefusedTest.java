import java.util.ArrayList;
import java.util.List;

/**
 * "What is refused changes nothing but the TAPE."
 *
 * <p>In a field in which much goes on, calls are made that are refused. Then all that can be looked at is as it is
 * without them, at once and after the field has gone on for a while, by which what can't be looked at (settings, DRAW,
 * CALLS, SEEN, who hears whom, RECEIVERS) would show. An object has 512 calls, so that each part of the looking is done
 * on an object of its own.
 */
public final class RefusedTest {
    private static final int LOW = Integer.MIN_VALUE;
    private static final int HIGH = Integer.MAX_VALUE;
    private static final int[] NO_STATIONS = {LOW, -1, 6, HIGH};
    /** A FRAME's queued BYTES are looked at together, and are at most so many calls. */
    private static final int DEAREST_LOOK = 100;
    private static final int[] PLAIN = Harness.command(0, 1, 99, 7);

    private interface Step {
        void on(Harness h);
    }

    private static final int[][] LOOKS = looks();
    private static final long[] NOW = seen(h -> { }, false);
    private static final long[] LATER = seen(h -> { }, true);

    public static void main(String[] args) {
        theFieldIsAsMeant();
        nothingChanges(2, "feed", RefusedTest::feed);
        nothingChanges(3, "end", RefusedTest::end);
        nothingChanges(5, "bits", RefusedTest::bits);
        nothingChanges(6, "unbits", RefusedTest::unbits);
        nothingChanges(7, "hears", RefusedTest::hears);
        nothingChanges(8, "tune, wrong numbers", RefusedTest::tuneNumbers);
        nothingChanges(8, "tune, none such", RefusedTest::tuneOthers);
        nothingChanges(9, "raw", RefusedTest::raw);
        nothingChanges(10, "call, not DOWN", RefusedTest::callNotDown);
        nothingChanges(10, "call, not all different", RefusedTest::callNotDifferent);
        nothingChanges(11, "leave", RefusedTest::leave);
        nothingChanges(12, "give, NONE", RefusedTest::giveNone);
        nothingChanges(12, "give, STATE", RefusedTest::giveState);
        nothingChanges(12, "give, FULL", RefusedTest::giveFull);
        nothingChanges(13, "read", RefusedTest::read);
        nothingChanges(14, "letter, no such stations", RefusedTest::letterStations);
        nothingChanges(14, "letter, no such text", RefusedTest::letterTexts);
        nothingChanges(15, "take", RefusedTest::take);
        nothingChanges(16, "beacon", RefusedTest::beacon);
        nothingChanges(17, "run", RefusedTest::run);
        nothingChanges(19, "looks", RefusedTest::looksForNone);
        tapeStays();
        Harness.finish();
    }

    // ---- The field

    /** LINKS in all MODES, a QUEUE of 12, letters, ROUTES, an OUT, and one that is SENDING. */
    private static void build(Harness h) {
        for (int s = 0; s < 4; s++) {
            h.call().tune(s, 0, 256);
        }
        h.call().call(0, 1, -1, -1);
        h.run(700);
        h.call().beacon(1);
        h.run(400);
        h.call().beacon(0);
        h.run(400);
        h.letter(1, 1, 97, 98, 99);
        h.letter(1, 1, 100);
        h.letter(1, 0, 101);
        h.run(500);
        h.give(0, 1, Harness.row(70, 1));
        h.run(1000);
        h.run(500);
        h.give(0, 1, Harness.row(120, 1));
        h.call().tune(4, 0, 0);
        h.call().tune(5, 0, 0);
        h.call().tune(2, 0, 0);
        h.call().call(2, 3, 4, 5);
        h.call().call(4, 3, -1, -1);
        h.call().leave(4, 3);
        h.call().tune(3, 6, 700);
        for (int i = 0; i < 12; i++) {
            h.raw(5, PLAIN);
        }
        h.call().take(1);
        h.raw(3, PLAIN);
        h.run(60);
    }

    private static void theFieldIsAsMeant() {
        Harness h = new Harness();
        build(h);
        int[][] modes = {{0, 1, 2}, {1, 0, 2}, {2, 3, 1}, {4, 3, 3}, {3, 2, 0}};
        for (int[] m : modes) {
            Harness.due(20, "MODE of " + m[0] + " to " + m[1], h.link(m[0], m[1], 0), m[2]);
        }
        Harness.due(20, "BYTES in an OUTBOX", h.link(0, 1, 9) >= 100, true);
        Harness.due(20, "BYTES in an INBOX", h.link(1, 0, 10) > 48, true);
        Harness.due(19, "FRAMES in a QUEUE", h.station(5, 1), 12);
        Harness.due(19, "SENDING", h.station(1, 0), 1);
        Harness.due(19, "LETTERS", h.station(0, 10) * 10 + h.station(1, 10), 11);
        Harness.due(22, "BEST", h.call().best(0, 1), 1);
        Harness.dueRow(4, "the OUT", h.out(), Harness.bytes(97, 98, 99));
    }

    /** What goes on then, and what it answers. */
    private static long goOn(Harness h) {
        long sum = 0;
        h.call().end(0);
        for (int s = 0; s < 6; s++) {
            h.call().tune(s, 0, 200);
        }
        for (int i = 0; i < 3; i++) {
            sum = 31 * sum + h.run(1000);
        }
        sum = 31 * sum + h.letter(0, 0, 1);
        sum = 31 * sum + h.letter(2, 1, 1, 2);
        sum = 31 * sum + h.call().beacon(2);
        sum = 31 * sum + (h.call().call(3, 5, -1, -1) ? 1 : 0);
        sum = 31 * sum + h.call().read(1, 0, 64);
        for (int i = 0; i < 5; i++) {
            sum = 31 * sum + h.run(1000);
        }
        int[][] ends = {{0, 1}, {1, 0}, {2, 3}, {3, 2}, {4, 3}};
        for (int[] e : ends) {
            h.call().tune(e[0], 4, 100);
            sum = 31 * sum + (h.call().leave(e[0], e[1]) ? 1 : 0);
        }
        for (int i = 0; i < 4; i++) {
            sum = 31 * sum + h.run(1000);
        }
        // The MARK of another call tells how many there were.
        for (int[] e : ends) {
            boolean called = h.call().call(e[0], e[1], -1, -1);
            Harness.due(10, "another call of " + e[0] + " to " + e[1], called, true);
            sum = 31 * sum + h.link(e[0], e[1], 13);
        }
        sum = 31 * sum + h.run(7);
        return sum;
    }

    // ---- Looking

    private static int[][] looks() {
        List<int[]> all = new ArrayList<>();
        all.add(new int[] {0});
        all.add(new int[] {1});
        for (int s = 0; s < 6; s++) {
            for (int what = 0; what <= 10; what++) {
                all.add(new int[] {2, s, what});
            }
            for (int o = 0; o < 6; o++) {
                for (int what = 0; what <= 15 && s != o; what++) {
                    all.add(new int[] {3, s, o, what});
                }
                for (int n = 0; n < 6 && s != o; n++) {
                    all.add(new int[] {4, s, o, n, 0});
                    all.add(new int[] {4, s, o, n, 1});
                }
            }
            for (int k = 0; k < 12; k++) {
                all.add(new int[] {5, s, k});
            }
        }
        return all.toArray(new int[0][]);
    }

    private static long look(Harness h, int[] l) {
        switch (l[0]) {
            case 0: return h.call().time();
            case 1: return java.util.Arrays.hashCode(h.out());
            case 2: return h.station(l[1], l[2]);
            case 3: return h.link(l[1], l[2], l[3]);
            case 4: return h.call().route(l[1], l[2], l[3], l[4]);
            default: return java.util.Arrays.hashCode(h.queued(l[1], l[2]));
        }
    }

    /** All LOOKS behind a step, and as the last one what the field answers while it goes on. */
    private static long[] seen(Step step, boolean later) {
        long[] all = new long[LOOKS.length + 1];
        for (int i = 0; i < LOOKS.length; ) {
            Harness h = new Harness();
            build(h);
            step.on(h);
            if (later) {
                all[LOOKS.length] = goOn(h);
            }
            for (; i < LOOKS.length && h.left() > DEAREST_LOOK; i++) {
                all[i] = look(h, LOOKS[i]);
            }
        }
        return all;
    }

    private static void nothingChanges(int promise, String what, Step step) {
        for (int later = 0; later < 2; later++) {
            long[] got = seen(step, later == 1);
            long[] want = later == 1 ? LATER : NOW;
            for (int i = 0; i < got.length; i++) {
                String where = i < LOOKS.length ? java.util.Arrays.toString(LOOKS[i]) : "what it answers";
                Harness.due(promise, what + ", " + (later == 1 ? "later" : "at once") + ": " + where, got[i], want[i]);
            }
        }
    }

    // ---- What is refused

    private static void dueEmpty(int promise, Harness h) {
        Harness.due(promise, "end(1) of a TAPE that was looked at", h.call().end(1), false);
    }

    private static void feed(Harness h) {
        h.tape(Harness.row(241, 1));
        Harness.due(2, "feed to 241", h.call().feed(1, 2, 3, 4, 5), false);
        Harness.due(2, "feed to 241 again", h.call().feed(-1, LOW, HIGH, 4, 5), false);
    }

    private static void end(Harness h) {
        h.tape(Harness.row(5, 1));
        for (int n : new int[] {LOW, -1, 6, HIGH}) {
            Harness.due(3, "end(" + n + ") of five", h.call().end(n), false);
        }
    }

    private static void bits(Harness h) {
        int[][] wrong = {{14, 0}, {91, 0}, {0, 1}, {15, 2}, {15, -1}, {90, LOW}, {90, HIGH}, {14, 2}};
        for (int[] w : wrong) {
            h.tape(Harness.row(w[0], 1));
            Harness.due(5, "bits(" + w[1] + ") of " + w[0], h.call().bits(w[1]), -1);
            dueEmpty(5, h);
        }
    }

    private static void unbits(Harness h) {
        Harness.due(6, "unbits() of none", h.call().unbits(), 0);
        h.tape(Harness.row(100, 3));
        Harness.due(6, "unbits() without a FRAME", h.call().unbits(), 0);
        Harness.due(6, "unbits() of 13 BYTES and a CHECK",
                Bits.unbits(h, Bits.FLAG + Bits.of(Harness.row(13, 1)) + Bits.FLAG), 0);
        dueEmpty(6, h);
    }

    private static void hears(Harness h) {
        for (int k : NO_STATIONS) {
            for (int s = 0; s < 6; s++) {
                Harness.due(7, "hears(" + k + ", " + s + ")", h.call().hears(k, s, false), false);
                Harness.due(7, "hears(" + s + ", " + k + ")", h.call().hears(s, k, false), false);
            }
        }
        for (int k = 0; k < 6; k++) {
            Harness.due(7, "hears(" + k + ", " + k + ", true)", h.call().hears(k, k, true), false);
            Harness.due(7, "hears(" + k + ", " + k + ", false)", h.call().hears(k, k, false), false);
        }
    }

    private static void tuneNumbers(Harness h) {
        int[][] wrong = {{0, -1}, {0, 257}, {1, 0}, {1, 201}, {2, 0}, {2, 17}, {4, 99}, {4, 20001}, {5, 0}, {5, 256},
            {6, -1}, {6, 1}, {6, 199}, {6, 20001}, {7, -1}, {7, 4097}};
        for (int[] w : wrong) {
            for (int s : new int[] {0, 1, 3}) {
                Harness.due(8, "tune(" + s + ", " + w[0] + ", " + w[1] + ")", h.call().tune(s, w[0], w[1]), false);
            }
        }
    }

    private static void tuneOthers(Harness h) {
        for (int what : new int[] {LOW, -1, 9, 10, HIGH}) {
            Harness.due(8, "tune(0, " + what + ", 200)", h.call().tune(0, what, 200), false);
            Harness.due(8, "tune(5, " + what + ", 0)", h.call().tune(5, what, 0), false);
        }
        for (int s : NO_STATIONS) {
            for (int what = 0; what <= 8; what++) {
                Harness.due(8, "tune(" + s + ", " + what + ", 200)", h.call().tune(s, what, 200), false);
            }
        }
    }

    private static void raw(Harness h) {
        Harness.due(9, "raw(5) to a QUEUE of 12", h.raw(5, PLAIN), false);
        dueEmpty(9, h);
        for (int count : new int[] {0, 14, 91, 260}) {
            Harness.due(9, "raw(0) of " + count, h.raw(0, Harness.row(count, 1)), false);
            dueEmpty(9, h);
        }
        for (int s : NO_STATIONS) {
            Harness.due(9, "raw(" + s + ")", h.raw(s, PLAIN), false);
            dueEmpty(9, h);
        }
    }

    private static void callNotDown(Harness h) {
        int[][] ends = {{0, 1}, {1, 0}, {2, 3}, {4, 3}};
        for (int[] e : ends) {
            Harness.due(10, "call(" + e[0] + ", " + e[1] + ")", h.call().call(e[0], e[1], -1, -1), false);
            Harness.due(10, "call(" + e[0] + ", " + e[1] + ", 5)", h.call().call(e[0], e[1], 5, -1), false);
        }
    }

    private static void callNotDifferent(Harness h) {
        int[][] wrong = {{3, 3, -1, -1}, {3, 2, 3, -1}, {3, 2, 2, -1}, {3, 2, 1, 1}, {3, 2, 1, 3}, {3, 2, 1, 2},
            {3, 2, -1, 1}, {3, 2, -2, -1}, {3, 2, 6, -1}, {3, 2, 1, 6}, {3, 2, 1, -2}, {3, 6, -1, -1}, {6, 3, -1, -1},
            {-1, 3, -1, -1}, {3, -1, -1, -1}, {LOW, HIGH, 1, 2}, {3, 2, HIGH, LOW}};
        for (int[] w : wrong) {
            Harness.due(10, "call(" + w[0] + ", " + w[1] + ", " + w[2] + ", " + w[3] + ")",
                    h.call().call(w[0], w[1], w[2], w[3]), false);
        }
    }

    private static void leave(Harness h) {
        int[][] wrong = {{4, 3}, {3, 2}, {0, 5}, {5, 0}, {0, 0}, {-1, 0}, {0, -1}, {6, 0}, {0, 6}, {LOW, 1}, {1, HIGH}};
        for (int[] w : wrong) {
            Harness.due(11, "leave(" + w[0] + ", " + w[1] + ")", h.call().leave(w[0], w[1]), false);
        }
    }

    private static void give(Harness h, int s, int o, int count, int want) {
        Harness.due(12, "give(" + s + ", " + o + ") of " + count, h.give(s, o, Harness.row(count, 9)), want);
        dueEmpty(12, h);
    }

    private static void giveNone(Harness h) {
        give(h, 0, 0, 3, -1);
        for (int k : NO_STATIONS) {
            give(h, k, 1, 3, -1);
            give(h, 0, k, 3, -1);
        }
    }

    private static void giveState(Harness h) {
        give(h, 2, 3, 3, -3);
        give(h, 4, 3, 3, -3);
        give(h, 3, 2, 3, -3);
        give(h, 3, 2, 201, -3);
        give(h, 3, 2, 0, -3);
    }

    private static void giveFull(Harness h) {
        int has = h.link(0, 1, 9);
        give(h, 0, 1, 201 - has, -2);
        give(h, 0, 1, 200, -2);
        give(h, 0, 1, 260, -2);
        give(h, 1, 0, 201, -2);
    }

    private static void read(Harness h) {
        for (int n : new int[] {LOW, -1, 0, 65, HIGH}) {
            Harness.due(13, "read(1, 0, " + n + ")", h.call().read(1, 0, n), -1);
        }
        for (int k : NO_STATIONS) {
            Harness.due(13, "read(" + k + ", 0, 5)", h.call().read(k, 0, 5), -1);
            Harness.due(13, "read(1, " + k + ", 5)", h.call().read(1, k, 5), -1);
        }
        Harness.due(13, "read(1, 1, 5)", h.call().read(1, 1, 5), -1);
    }

    private static void letterStations(Harness h) {
        for (int k : NO_STATIONS) {
            Harness.due(14, "letter(" + k + ", 1)", h.letter(k, 1, 5), -1);
            dueEmpty(14, h);
            Harness.due(14, "letter(0, " + k + ")", h.letter(0, k, 5), -1);
            dueEmpty(14, h);
        }
    }

    private static void letterTexts(Harness h) {
        for (int count : new int[] {0, 13, 20, 260}) {
            for (int d = 0; d < 2; d++) {
                Harness.due(14, "letter(0, " + d + ") of " + count, h.letter(0, d, Harness.row(count, 1)), -1);
                dueEmpty(14, h);
            }
        }
    }

    private static void take(Harness h) {
        for (int s : new int[] {LOW, -1, 2, 3, 5, 6, HIGH}) {
            Harness.due(15, "take(" + s + ")", h.call().take(s), -1);
        }
    }

    private static void beacon(Harness h) {
        for (int s : NO_STATIONS) {
            Harness.due(16, "beacon(" + s + ")", h.call().beacon(s), -1);
        }
    }

    private static void run(Harness h) {
        for (int n : new int[] {LOW, -1, 0, 1001, 2000, HIGH}) {
            Harness.due(17, "run(" + n + ")", h.run(n), -1);
        }
    }

    private static void looksForNone(Harness h) {
        for (int k : NO_STATIONS) {
            Harness.due(4, "out", h.call().out(k == 6 ? 3 : k), -1);
            Harness.due(19, "station", h.station(k, 0) + h.station(0, k == 6 ? 11 : k), -2);
            Harness.due(20, "link", h.link(k, 0, 0) + h.link(0, k, 0) + h.link(0, 1, k == 6 ? 16 : k), -3);
            Harness.due(21, "route, no station", h.call().route(k, 0, 1, 0), -1);
            Harness.due(21, "route, no d", h.call().route(0, k, 1, 0), -1);
            Harness.due(21, "route, no n", h.call().route(0, 1, k, 0), -1);
            Harness.due(21, "route, no what", h.call().route(0, 1, 1, k), -1);
            Harness.due(22, "best", h.call().best(k, 0) + h.call().best(0, k), -2);
            Harness.due(23, "queued, no station", h.call().queued(k, 0, 0), -1);
            Harness.due(23, "queued, no FRAME", h.call().queued(5, k == 6 ? 12 : k, 0), -1);
            Harness.due(23, "queued, no BYTE", h.call().queued(5, 0, k == 6 ? 16 : k), -1);
        }
    }

    /** "(empty then, as behind all calls that look at it ..)": behind the others, refused or not, it is as it was. */
    private static void tapeStays() {
        Step[] steps = {RefusedTest::hears, RefusedTest::tuneNumbers, RefusedTest::tuneOthers, RefusedTest::callNotDown,
            RefusedTest::callNotDifferent, RefusedTest::leave, RefusedTest::read, RefusedTest::take, RefusedTest::beacon,
            RefusedTest::run, RefusedTest::looksForNone, h -> h.call().take(1), h -> h.run(5), h -> h.call().beacon(0),
            h -> h.call().read(1, 0, 5), h -> h.call().call(3, 2, -1, -1), h -> h.call().leave(0, 1),
            h -> h.call().hears(0, 1, false), h -> h.call().tune(0, 0, 5)};
        for (int i = 0; i < steps.length; i++) {
            Harness h = new Harness();
            build(h);
            h.tape(Harness.row(37, 200));
            steps[i].on(h);
            Harness.due(5, "end(38) behind step " + i, h.call().end(38), false);
            Harness.due(5, "end(37) behind step " + i, h.call().end(37), true);
            Harness.due(9, "raw(2)", h.call().raw(2), true);
            Harness.dueRow(5, "the TAPE behind step " + i, h.queued(2, h.station(2, 1) - 1), Harness.row(37, 200));
        }
    }
}
