/**
 * One station on a bench: it is the only one that hears station 5, it sends nothing, so that its QUEUE stays to be
 * looked at, and station 5 sends it any FRAME at once.
 */
final class Bench {
    private static final int INJECTOR = 5;

    final Harness h = new Harness();
    final int s;

    Bench(int s) {
        this.s = s;
        for (int k = 0; k < INJECTOR; k++) {
            if (k != s) {
                h.call().hears(k, INJECTOR, false);
            }
        }
        h.call().tune(s, 0, 0);
        h.call().tune(INJECTOR, 0, 256);
        h.call().tune(INJECTOR, 2, 1);
    }

    /** None hears the station, so that what it sends is ANSWERED by none. */
    Bench unheard() {
        for (int k = 0; k <= INJECTOR; k++) {
            if (k != s) {
                h.call().hears(k, s, false);
            }
        }
        return this;
    }

    /** Lets the QUEUE go; for a station that is unheard, with a T that is long. */
    void drain() {
        h.call().tune(s, 0, 256);
        for (int i = 0; i < 10 && h.station(s, 1) + h.station(s, 0) > 0; i++) {
            h.run(1000);
        }
        h.call().tune(s, 0, 0);
        Harness.due(19, "FRAMES in the QUEUE behind drain()", h.station(s, 1), 0);
    }

    /** Lets FRAMES that are BAD come to the QUEUE until it has so many. */
    void fill(int count) {
        for (int i = h.station(s, 1); i < count; i++) {
            h.raw(s, Harness.command(0, 1, 99, 7));
        }
        dueStation(1, count);
    }

    /** TICKS from the one that begins to the one in which a FRAME ARRIVES. */
    static int ticksOf(int[] frame, int lead) {
        return 8 * lead + Model.bitsOf(frame).size() + 8;
    }

    /** Sends a FRAME to the station: the latest TICK is the one that it ARRIVES in. */
    void hear(int... frame) {
        // The TICK ahead lets the injector end its SENDING, so that FLAGS lead again.
        h.run(1);
        h.tape(frame);
        Harness.due(9, "raw on the bench", h.call().raw(INJECTOR), true);
        int ticks = ticksOf(frame, 1);
        Harness.due(17, "a FRAME ARRIVES on the bench", h.run(ticks), 1);
    }

    void hearCommand(int from, int... rest) {
        hear(Harness.command(from, s, rest));
    }

    void hearResponse(int from, int... rest) {
        hear(Harness.response(from, s, rest));
    }

    /** Makes the LINK from the other station UP by its SABM; one UA is in the QUEUE then. */
    void up(int o) {
        hearCommand(o, Harness.SABM, o > s ? 129 : 1);
        due(20, o, 0, 2);
    }

    void due(int promise, int o, int what, int want) {
        Harness.due(promise, "link(" + s + ", " + o + ", " + what + ")", h.link(s, o, what), want);
    }

    /** Compares a LINK's numbers from MODE on, as far as they are given. */
    void dueLink(int promise, int o, int... want) {
        for (int what = 0; what < want.length; what++) {
            due(promise, o, what, want[what]);
        }
    }

    void dueStation(int what, int want) {
        Harness.due(19, "station(" + s + ", " + what + ")", h.station(s, what), want);
    }

    /** The last FRAME of the QUEUE, which has so many. */
    void dueLast(int promise, int count, int... want) {
        Harness.due(promise, "FRAMES in the QUEUE of " + s, h.station(s, 1), count);
        Harness.dueRow(promise, "FRAME " + (count - 1) + " in the QUEUE of " + s, h.queued(s, count - 1), want);
    }
}
