import java.math.BigInteger;

/**
 * Boundary cases of part II and of promises 7, 8, 9, 17, 18, 19 and 23: a method for each sentence, which stands
 * above it.
 */
public final class ChannelEdgesTest {
    private static final int LOW = Integer.MIN_VALUE;
    private static final int HIGH = Integer.MAX_VALUE;
    private static final String FLAG = Bits.FLAG;
    /** A BAD one, so that none ANSWERS. */
    private static final int[] PLAIN = Harness.command(0, 1, 99, 7);
    private static final int[] NO_STATIONS = {LOW, -2, -1, 6, 7, HIGH};

    public static void main(String[] args) {
        stations0To5();
        rawOf15To90();
        framesOf15And90OnTheAir();
        rawToAQueueOf12();
        queueOf12();
        chanceOf0To256();
        chanceAtFirst();
        drawWraps();
        drawAtFirst();
        slotOf1To200();
        leadOf1To16();
        tOf100To20000();
        pathOf1To255();
        everyOf0Or200To20000();
        rateOf0To4096();
        rateIsBelowAlone();
        seedWraps();
        tuneOthers();
        eachHearsEachOther();
        hearsOneAlone();
        fewerThanFourFrames();
        frameThatComesInTime();
        fiveOnesBeginAnew();
        noCarrierAtFirst();
        waitGoesOnWithoutCarrierAlone();
        rowIsShutWhenNothingIsHeard();
        onesAre0WhenNothingIsHeard();
        strayOfAnotherFrame();
        strayOfAnotherLength();
        strayOfAnotherTick();
        strayOfTheSameFrameBefore();
        strayOfOneNotHeard();
        runOf1To1000();
        stationOf0To10();
        queuedWithin();
        Harness.finish();
    }

    private static void dueStation(Harness h, int s, int what, int want) {
        Harness.due(19, "station(" + s + ", " + what + ")", h.station(s, what), want);
    }

    private static int ticksOf(int[] frame, int lead) {
        return Bench.ticksOf(frame, lead);
    }

    /** "STATIONS 0 .. 5." */
    private static void stations0To5() {
        for (int k : new int[] {LOW, -1, 0, 5, 6, HIGH}) {
            Harness h = new Harness();
            boolean is = k == 0 || k == 5;
            int other = k == 0 ? 5 : 0;
            Harness.due(7, "hears(" + k + ", " + other + ")", h.call().hears(k, other, true), is);
            Harness.due(7, "hears(" + other + ", " + k + ")", h.call().hears(other, k, true), is);
            Harness.due(8, "tune(" + k + ")", h.call().tune(k, 0, 0), is);
            Harness.due(9, "raw(" + k + ")", h.raw(k, PLAIN), is);
            Harness.due(23, "queued(" + k + ")", h.call().queued(k, 0, 0), is ? PLAIN[0] : -1);
            Harness.due(19, "station(" + k + ")", h.station(k, 1), is ? 1 : -1);
            Harness.due(10, "call(" + k + ", " + other + ")", h.call().call(k, other, -1, -1), is);
            Harness.due(10, "call(" + other + ", " + k + ")", h.call().call(other, k, -1, -1), is);
            Harness.due(20, "link(" + k + ", " + other + ")", h.link(k, other, 0), is ? 1 : -1);
            Harness.due(20, "link(" + other + ", " + k + ")", h.link(other, k, 0), is ? 1 : -1);
            Harness.due(12, "give(" + k + ", " + other + ")", h.call().give(k, other), is ? -3 : -1);
            Harness.due(12, "give(" + other + ", " + k + ")", h.call().give(other, k), is ? -3 : -1);
            Harness.due(13, "read(" + k + ", " + other + ")", h.call().read(k, other, 1), is ? 0 : -1);
            Harness.due(13, "read(" + other + ", " + k + ")", h.call().read(other, k, 1), is ? 0 : -1);
            Harness.due(11, "leave(" + k + ", " + other + ")", h.call().leave(k, other), is);
            Harness.due(11, "leave(" + other + ", " + k + ")", h.call().leave(other, k), is);
            Harness.due(14, "letter(" + k + ", " + other + ")", h.letter(k, other, 1), is ? 0 : -1);
            Harness.due(14, "letter(" + other + ", " + k + ")", h.letter(other, k, 1), is ? 0 : -1);
            Harness.due(14, "letter(" + k + ", " + k + ")", h.letter(k, k, 1), is ? 1 : -1);
            Harness.due(15, "take(" + k + ")", h.call().take(k), is ? 256 * k + 1 : -1);
            Harness.due(16, "beacon(" + k + ")", h.call().beacon(k), is ? 0 : -1);
            Harness.due(21, "route(" + k + ", " + other + ", 1, 0)", h.call().route(k, other, 1, 0), is ? 0 : -1);
            Harness.due(21, "route(1, " + k + ", " + other + ", 0)", h.call().route(1, k, other, 0), is ? 0 : -1);
            Harness.due(21, "route(1, " + other + ", " + k + ", 0)", h.call().route(1, other, k, 0), is ? 0 : -1);
            Harness.due(22, "best(" + k + ", 1)", h.call().best(k, 1), -1);
            Harness.due(22, "best(1, " + k + ")", h.call().best(1, k), -1);
        }
    }

    /** "it has not 15 .. 90 BYTES" */
    private static void rawOf15To90() {
        for (int count : new int[] {0, 1, 14, 15, 90, 91, 260}) {
            Harness h = new Harness();
            boolean fits = count >= 15 && count <= 90;
            Harness.due(9, "raw(0) of " + count, h.raw(0, Harness.row(count, 1)), fits);
            dueStation(h, 0, 1, fits ? 1 : 0);
            dueStation(h, 0, 9, 0);
            Harness.dueRow(9, "the FRAME", h.queued(0, 0), fits ? Harness.row(count, 1) : new int[0]);
            Harness.due(9, "the TAPE behind it", h.call().end(1), false);
        }
    }

    /** "A FRAME has 15 to 90": both ARRIVE, with as many 0s put between as there can be, and with none. */
    private static void framesOf15And90OnTheAir() {
        for (int count : new int[] {15, 90}) {
            for (int b : new int[] {0, 255}) {
                int[] frame = new int[count];
                java.util.Arrays.fill(frame, b);
                Harness h = new Harness();
                h.call().tune(0, 0, 256);
                h.raw(0, frame);
                Harness.due(17, "run up to the last TICK of " + count, h.run(ticksOf(frame, 2) - 1), 0);
                Harness.due(17, "the last TICK of " + count, h.run(1), 5);
                dueStation(h, 5, 7, 0);
                dueStation(h, 5, 8, 1);
            }
        }
    }

    /** "or the QUEUE has 12" */
    private static void rawToAQueueOf12() {
        Harness h = new Harness();
        h.call().tune(4, 0, 0);
        for (int i = 1; i <= 14; i++) {
            Harness.due(9, "raw(4) the " + i + "th time", h.raw(4, Harness.row(15, i)), i <= 12);
            dueStation(h, 4, 1, Math.min(i, 12));
        }
        dueStation(h, 4, 9, 0);
        for (int k = 0; k < 12; k++) {
            Harness.due(23, "queued(4, " + k + ", 0)", h.call().queued(4, k, 0), k + 1);
        }
        Harness.due(9, "raw(3)", h.raw(3, PLAIN), true);
        // When one has gone there is room for one.
        h.call().tune(4, 0, 256);
        h.run(21 + 16);
        dueStation(h, 4, 1, 11);
        Harness.due(9, "raw(4) when one has gone", h.raw(4, PLAIN), true);
        Harness.due(9, "raw(4) once more", h.raw(4, PLAIN), false);
    }

    /** "a QUEUE of at most 12 FRAMES (one more is LOST)": by all ways that FRAMES come there. */
    private static void queueOf12() {
        int[] repeat = Harness.frame(4, 3, true, Harness.bytes(2), Harness.DISC, 1);
        int[] foreign = Harness.command(4, 2, Harness.DISC, 77);
        for (int kind = 0; kind < 6; kind++) {
            for (int full = 0; full < 2; full++) {
                Bench b = new Bench(2);
                b.fill(11 + full);
                switch (kind) {
                    case 0: b.h.call().call(2, 4, -1, -1); break;
                    case 1: b.h.call().beacon(2); break;
                    case 2: b.hear(repeat); break;
                    case 3: b.hear(foreign); break;
                    case 4:
                        b.h.call().tune(2, 6, 200);
                        b.h.run(200);
                        break;
                    default:
                        b.hear(Harness.nodes(4));
                        b.h.letter(2, 4, 1);
                        break;
                }
                String what = "way " + kind + " to a QUEUE of " + (11 + full);
                Harness.due(19, what, b.h.station(2, 1), 12);
                Harness.due(19, what + ", LOST", b.h.station(2, 9), full);
                // The last one is the one that came, or the last one of those that were there.
                boolean came = b.h.call().queued(2, 11, 14) != 99 || b.h.call().queued(2, 11, 13) != 97;
                Harness.due(23, what + ", the last one is new", came, full == 0);
            }
        }
    }

    /** A DRAW whose next one has such an upper BYTE. */
    private static int drawBefore(int upper) {
        for (int draw = 0; draw < 1000000; draw++) {
            if (nextDraw(draw) >>> 24 == upper) {
                return draw;
            }
        }
        throw new IllegalStateException("there is no such DRAW");
    }

    /** The next DRAW, reckoned in whole numbers and cut to 32 bits at the end. */
    private static int nextDraw(int draw) {
        return BigInteger.valueOf(draw).multiply(BigInteger.valueOf(1103515245)).add(BigInteger.valueOf(12345)).intValue();
    }

    private static void dueDraw(int draw, int chance, boolean sends) {
        Harness h = new Harness();
        h.call().tune(1, 3, draw);
        h.call().tune(1, 0, chance);
        h.raw(1, PLAIN);
        h.run(1);
        Harness.due(8, "SENDING by DRAW " + draw + ", CHANCE " + chance, h.station(1, 0), sends ? 1 : 0);
        Harness.due(8, "WAIT", h.station(1, 4), sends ? 0 : 20);
    }

    private static void dueTune(int what, int low, int high) {
        Harness h = new Harness();
        Harness.due(8, "tune(2, " + what + ", " + low + ")", h.call().tune(2, what, low), true);
        Harness.due(8, "tune(2, " + what + ", " + high + ")", h.call().tune(2, what, high), true);
        for (int v : new int[] {low - 1, high + 1, LOW, HIGH}) {
            Harness.due(8, "tune(2, " + what + ", " + v + ")", h.call().tune(2, what, v), false);
        }
    }

    /** "CHANCE, 0 .. 256"; "if DRAW >>> 24 is below CHANCE it is SENDING from now on, else WAIT is SLOT" */
    private static void chanceOf0To256() {
        dueTune(0, 0, 256);
        dueDraw(drawBefore(0), 0, false);
        dueDraw(drawBefore(0), 1, true);
        dueDraw(drawBefore(1), 1, false);
        dueDraw(drawBefore(127), 128, true);
        dueDraw(drawBefore(128), 128, false);
        dueDraw(drawBefore(254), 255, true);
        dueDraw(drawBefore(255), 255, false);
        dueDraw(drawBefore(255), 256, true);
    }

    /** "CHANCE (80)" */
    private static void chanceAtFirst() {
        for (int upper = 79; upper <= 80; upper++) {
            Harness h = new Harness();
            h.call().tune(0, 3, drawBefore(upper));
            h.raw(0, PLAIN);
            h.run(1);
            Harness.due(8, "SENDING by a draw of " + upper, h.station(0, 0), upper < 80 ? 1 : 0);
        }
    }

    /** "DRAW becomes DRAW * 1103515245 + 12345 (ints wrap)"; "3: DRAW" is any number */
    private static void drawWraps() {
        for (int draw : new int[] {LOW, LOW + 1, -1, 0, 1, 0x40000000, HIGH - 1, HIGH}) {
            int upper = nextDraw(draw) >>> 24;
            dueDraw(draw, upper, false);
            dueDraw(draw, upper + 1, true);
            // The second DRAW goes on from the whole first one.
            int second = nextDraw(nextDraw(draw)) >>> 24;
            for (int more = 0; more < 2; more++) {
                Harness h = new Harness();
                Harness.due(8, "tune(1, 3, " + draw + ")", h.call().tune(1, 3, draw), true);
                h.call().tune(1, 0, 0);
                h.call().tune(1, 1, 1);
                h.raw(1, PLAIN);
                h.run(2);
                h.call().tune(1, 0, second + more);
                h.run(1);
                Harness.due(8, "SENDING by the second DRAW from " + draw, h.station(1, 0), more);
            }
        }
    }

    /** "DRAW (its number and 1)" */
    private static void drawAtFirst() {
        for (int s = 0; s < 6; s++) {
            int upper = nextDraw(s + 1) >>> 24;
            for (int more = 0; more < 2; more++) {
                Harness h = new Harness();
                h.call().tune(s, 0, upper + more);
                h.raw(s, PLAIN);
                h.run(1);
                Harness.due(8, "SENDING by the first DRAW of " + s, h.station(s, 0), more);
            }
        }
    }

    /** "SLOT (20)"; "SLOT, 1 .. 200"; "if WAIT is above 0 it is one less; else DRAW becomes .." */
    private static void slotOf1To200() {
        dueTune(1, 1, 200);
        for (int slot : new int[] {1, 20, 200}) {
            Harness h = new Harness();
            if (slot != 20) {
                h.call().tune(3, 1, slot);
            }
            h.call().tune(3, 0, 0);
            h.raw(3, PLAIN);
            for (int i = 0; i < 2; i++) {
                h.run(1);
                Harness.due(8, "WAIT by SLOT " + slot, h.station(3, 4), slot);
                h.run(slot);
                Harness.due(8, "WAIT in the end", h.station(3, 4), 0);
            }
            // WAIT that has come to 0 is no draw yet; the next TICK is.
            h.call().tune(3, 0, 256);
            dueStation(h, 3, 0, 0);
            h.run(1);
            dueStation(h, 3, 0, 1);
        }
    }

    /** "LEAD (2)"; "LEAD, 1 .. 16"; "LEAD FLAGS (as LEAD is when it begins)" */
    private static void leadOf1To16() {
        dueTune(2, 1, 16);
        for (int lead : new int[] {1, 2, 16}) {
            Harness h = new Harness();
            h.call().tune(0, 0, 256);
            if (lead != 2) {
                h.call().tune(0, 2, lead);
            }
            h.raw(0, PLAIN);
            h.run(1);
            h.call().tune(0, 2, 7);
            h.run(8 * lead - 1);
            Harness.due(8, "FRAMES that went, LEAD " + lead, h.station(0, 5), 0);
            h.run(1);
            Harness.due(8, "FRAMES that went, a TICK later", h.station(0, 5), 1);
            Harness.due(17, "run", h.run(ticksOf(PLAIN, 0) - 1), 5);
        }
    }

    /** "T (1500)"; "T, 100 .. 20000" */
    private static void tOf100To20000() {
        dueTune(4, 100, 20000);
        for (int t : new int[] {100, 1500, 20000}) {
            Harness h = new Harness();
            h.call().tune(0, 0, 0);
            if (t != 1500) {
                h.call().tune(0, 4, t);
            }
            h.call().call(0, 1, -1, -1);
            Harness.due(8, "CLOCK by T " + t, h.link(0, 1, 4), t);
            for (int i = 0; i < (t - 1) / 1000; i++) {
                h.run(1000);
            }
            h.run((t - 1) % 1000);
            Harness.due(8, "CLOCK ahead of its end", h.link(0, 1, 4), 1);
            Harness.due(8, "TRIES ahead of its end", h.link(0, 1, 5), 1);
            h.run(1);
            Harness.due(8, "CLOCK at its end", h.link(0, 1, 4), t);
            Harness.due(8, "TRIES at its end", h.link(0, 1, 5), 2);
        }
    }

    /** "PATH (192)"; "PATH, 1 .. 255" */
    private static void pathOf1To255() {
        dueTune(5, 1, 255);
        for (int path : new int[] {1, 192, 255}) {
            Bench b = new Bench(2);
            if (path != 192) {
                b.h.call().tune(2, 5, path);
            }
            b.hear(Harness.nodes(0));
            Harness.due(8, "QUALITY by PATH " + path, b.h.call().route(2, 0, 0, 0), path);
        }
    }

    /** "EVERY (0)"; "EVERY, 0 or 200 .. 20000"; "if EVERY is above 0 and TIME a multiple of it" */
    private static void everyOf0Or200To20000() {
        dueTune(6, 200, 20000);
        Harness h = new Harness();
        for (int v : new int[] {-200, -1, 1, 100, 199}) {
            Harness.due(8, "tune(2, 6, " + v + ")", h.call().tune(2, 6, v), false);
        }
        Harness.due(8, "tune(2, 6, 0)", h.call().tune(2, 6, 0), true);
        for (int s : new int[] {0, 5}) {
            for (int every : new int[] {200, 20000}) {
                h = new Harness();
                h.call().tune(s, 0, 0);
                h.call().tune(s, 6, every);
                for (int i = 0; i < (every - 1) / 1000; i++) {
                    h.run(1000);
                }
                h.run((every - 1) % 1000);
                Harness.due(8, "BEACONS of " + s + " ahead of EVERY " + every, h.station(s, 1), 0);
                h.run(1);
                Harness.due(8, "BEACONS of " + s + " by EVERY " + every, h.station(s, 1), 1);
                h.run(1);
                Harness.due(8, "BEACONS of " + s + " behind it", h.station(s, 1), 1);
            }
        }
        h = new Harness();
        for (int i = 0; i < 21; i++) {
            h.run(1000);
        }
        for (int s = 0; s < 6; s++) {
            dueStation(h, s, 1, 0);
            dueStation(h, s, 5, 0);
        }
    }

    /** HASH, reckoned in whole numbers and cut to 32 bits at each step. */
    private static int hash(int a, int b) {
        int h = BigInteger.valueOf(a).multiply(BigInteger.valueOf(1000003)).add(BigInteger.valueOf(b)).intValue();
        long turned = Integer.toUnsignedLong(h) ^ Integer.toUnsignedLong(h) / 32768;
        h = BigInteger.valueOf(turned).multiply(BigInteger.valueOf(1540483477)).intValue();
        return (int) (Integer.toUnsignedLong(h) ^ Integer.toUnsignedLong(h) / 8192);
    }

    private static int upperOf(int seed, int tick) {
        return (int) (Integer.toUnsignedLong(hash(seed, tick)) / 1048576);
    }

    /** A SEED by which TICK 40 alone of the first ones has this number, and none has one of lower .. upper. */
    private static int seedFor(int last, int number, int lower, int upper) {
        for (int seed = 0; seed < 1 << 28; seed++) {
            boolean fits = upperOf(seed, 40) == number;
            for (int tick = 1; tick <= last && fits; tick++) {
                int other = upperOf(seed, tick);
                fits = tick == 40 || other < lower || other > upper;
            }
            if (fits) {
                return seed;
            }
        }
        throw new IllegalStateException("there is no such SEED");
    }

    private static int arrivedWith(int rate, int seed) {
        Harness h = new Harness();
        h.call().tune(0, 0, 256);
        h.call().tune(3, 7, rate);
        h.call().tune(3, 8, seed);
        h.raw(0, PLAIN);
        h.run(ticksOf(PLAIN, 2));
        Harness.due(8, "FRAMES at a station without NOISE", h.station(2, 6), 1);
        return h.station(3, 6);
    }

    /** "RATE (0)"; "RATE, 0 .. 4096": never, and always (all levels turned are the same bits) */
    private static void rateOf0To4096() {
        dueTune(7, 0, 4096);
        int last = ticksOf(PLAIN, 2);
        int lowest = seedFor(last, 0, 0, 0);
        Harness.due(8, "RATE 0, a HASH of 0", arrivedWith(0, lowest), 1);
        Harness.due(8, "RATE 1, a HASH of 0", arrivedWith(1, lowest), 0);
        int highest = seedFor(last, 4095, 4095, 4095);
        Harness.due(8, "RATE 4095, a HASH of 4095", arrivedWith(4095, highest), 0);
        Harness.due(8, "RATE 4096, a HASH of 4095", arrivedWith(4096, highest), 1);
    }

    /** "turned by NOISE if HASH(SEED, TIME) >>> 20 is below RATE" */
    private static void rateIsBelowAlone() {
        int last = ticksOf(PLAIN, 2);
        for (int rate = 1; rate <= 4; rate++) {
            Harness.due(8, "a HASH that is RATE " + rate, arrivedWith(rate, seedFor(last, rate, 0, rate - 1)), 1);
            Harness.due(8, "a HASH that is one less", arrivedWith(rate, seedFor(last, rate - 1, 0, rate - 1)), 0);
        }
    }

    private static int noisyTicks(int seed, int first, int last, int rate) {
        int count = 0;
        for (int tick = first; tick <= last; tick++) {
            count += upperOf(seed, tick) < rate ? 1 : 0;
        }
        return count;
    }

    /** "SEED (0)"; "HASH(a, b): .. (ints wrap)"; "8: SEED" is any number */
    private static void seedWraps() {
        int ticks = ticksOf(PLAIN, 2);
        for (int seed : new int[] {0, 1, -1, LOW, HIGH, 0x7fff0001}) {
            for (int noisy = 0; noisy < 2; noisy++) {
                int ahead = 1;
                while (noisyTicks(seed, ahead + 1, ahead + ticks, 6) != noisy) {
                    ahead++;
                }
                Harness h = new Harness();
                h.call().tune(0, 0, 256);
                h.call().tune(3, 7, 6);
                if (seed != 0) {
                    Harness.due(8, "tune(3, 8, " + seed + ")", h.call().tune(3, 8, seed), true);
                }
                for (int i = 0; i < ahead / 1000; i++) {
                    h.run(1000);
                }
                h.run(ahead % 1000);
                h.raw(0, PLAIN);
                Harness.due(8, "SEED " + seed + ", " + noisy + " TICKS with NOISE", h.run(ticks), 5 - noisy);
            }
        }
    }

    /** "false if there is none such" */
    private static void tuneOthers() {
        Harness h = new Harness();
        for (int what = -1; what <= 9; what++) {
            Harness.due(8, "tune(0, " + what + ", 200)", h.call().tune(0, what, 200), what != -1 && what != 2 && what != 9);
        }
        for (int what : new int[] {LOW, HIGH, -9, 10}) {
            Harness.due(8, "tune(0, " + what + ", 1)", h.call().tune(0, what, 1), false);
        }
        for (int s : NO_STATIONS) {
            for (int what = 0; what <= 8; what++) {
                Harness.due(8, "tune(" + s + ", " + what + ", 200)", h.call().tune(s, what, 200), false);
            }
        }
    }

    /** "At first each hears each other one." */
    private static void eachHearsEachOther() {
        for (int from = 0; from < 6; from++) {
            Harness h = new Harness();
            h.call().tune(from, 0, 256);
            h.raw(from, PLAIN);
            h.run(1);
            for (int to = 0; to < 6; to++) {
                Harness.due(7, "CARRIER of " + from + " at " + to, h.station(to, 2), to == from ? 0 : 1);
            }
        }
    }

    /** "Station a hears b, or not: true; false if there are none such, or they are the same." */
    private static void hearsOneAlone() {
        for (int a = 0; a < 6; a++) {
            for (int b = 0; b < 6; b++) {
                Harness h = new Harness();
                Harness.due(7, "hears(" + a + ", " + b + ", false)", h.call().hears(a, b, false), a != b);
                h.call().tune(b, 0, 256);
                h.raw(b, PLAIN);
                h.run(1);
                for (int to = 0; to < 6; to++) {
                    Harness.due(7, "CARRIER at " + to + " then", h.station(to, 2), to == b || to == a ? 0 : 1);
                }
                Harness.due(7, "hears(" + a + ", " + b + ", true)", h.call().hears(a, b, true), a != b);
                h.run(1);
                Harness.due(7, "CARRIER at " + a + " again", h.station(a, 2), a != b ? 1 : 0);
            }
        }
        Harness h = new Harness();
        for (int k : NO_STATIONS) {
            Harness.due(7, "hears(" + k + ", 0, true)", h.call().hears(k, 0, true), false);
            Harness.due(7, "hears(0, " + k + ", true)", h.call().hears(0, k, true), false);
            Harness.due(7, "hears(0, " + k + ", false)", h.call().hears(0, k, false), false);
        }
    }

    /** "if there is a FRAME in its QUEUE, and this SENDING has had fewer than 4" */
    private static void fewerThanFourFrames() {
        for (int count = 1; count <= 9; count++) {
            Harness h = new Harness();
            h.call().tune(0, 0, 256);
            for (int i = 0; i < count; i++) {
                h.raw(0, PLAIN);
            }
            int went = 0;
            while (went < count) {
                int now = Math.min(4, count - went);
                int ticks = 16 + now * ticksOf(PLAIN, 0);
                h.run(ticks);
                went += now;
                Harness.due(19, "SENDING in the last TICK of FRAME " + went, h.station(0, 0), 1);
                dueStation(h, 0, 5, went);
                h.run(1);
                Harness.due(19, "SENDING in the next TICK", h.station(0, 0), 0);
                dueStation(h, 0, 1, count - went);
            }
            dueStation(h, 1, 6, count);
            dueStation(h, 1, 7, 0);
        }
    }

    /** "when a FLAG is through: if there is a FRAME in its QUEUE": up to the TICK behind the FLAG, and no later. */
    private static void frameThatComesInTime() {
        int ticks = ticksOf(PLAIN, 2);
        for (int late = -1; late <= 1; late++) {
            Harness h = new Harness();
            h.call().tune(0, 0, 256);
            h.raw(0, PLAIN);
            h.run(ticks + late);
            h.raw(0, PLAIN);
            h.run(1 - late);
            Harness.due(19, "SENDING, a FRAME that came " + late, h.station(0, 0), late < 1 ? 1 : 0);
            dueStation(h, 0, 5, late < 1 ? 2 : 1);
            h.run(1);
            dueStation(h, 0, 0, 1);
            dueStation(h, 0, 5, late < 1 ? 2 : 1);
        }
    }

    /** "behind each five 1s in a row": a FRAME's row does not go on from the one sent before it. */
    private static void fiveOnesBeginAnew() {
        int[] first = Bits.find(15, f -> Model.check(f) >> 11 == 0x1e);
        int[] second = Harness.row(15, 1);
        Harness h = new Harness();
        h.call().tune(0, 0, 256);
        h.raw(0, first);
        h.raw(0, second);
        Harness.due(17, "run of two FRAMES", h.run(16 + ticksOf(first, 0) + ticksOf(second, 0)), 10);
        dueStation(h, 1, 7, 0);
    }

    /** "had no CARRIER in the TICK before (none at first)" */
    private static void noCarrierAtFirst() {
        Harness h = new Harness();
        for (int s = 0; s < 6; s++) {
            h.call().tune(s, 0, 256);
            h.raw(s, PLAIN);
        }
        h.run(1);
        for (int s = 0; s < 6; s++) {
            dueStation(h, s, 0, 1);
            dueStation(h, s, 2, 0);
        }
        // A TICK later it is the CARRIER of the TICK before that counts.
        h = new Harness();
        h.call().tune(0, 0, 256);
        h.call().tune(1, 0, 256);
        h.raw(0, PLAIN);
        h.run(1);
        h.raw(1, PLAIN);
        h.run(ticksOf(PLAIN, 2));
        dueStation(h, 0, 0, 0);
        dueStation(h, 1, 0, 0);
        dueStation(h, 1, 2, 0);
        h.run(1);
        dueStation(h, 1, 0, 1);
    }

    /** "Each station .. that .. has a FRAME in its QUEUE, and had no CARRIER ..: if WAIT is above 0 it is one less" */
    private static void waitGoesOnWithoutCarrierAlone() {
        Harness h = new Harness();
        h.call().tune(1, 0, 0);
        h.raw(1, PLAIN);
        h.run(3);
        dueStation(h, 1, 4, 18);
        h.call().tune(0, 0, 256);
        h.raw(0, PLAIN);
        h.run(1);
        // In the CARRIER's first TICK there was none in the TICK before.
        dueStation(h, 1, 4, 17);
        h.run(ticksOf(PLAIN, 2) - 1);
        dueStation(h, 1, 4, 17);
        h.run(1);
        dueStation(h, 1, 2, 0);
        dueStation(h, 1, 4, 17);
        h.run(1);
        dueStation(h, 1, 4, 16);
    }

    private static int[] crcNeutral(int[] ahead) {
        for (int i = 0; i < 1 << 24; i++) {
            int[] more = {i & 255, i >> 8 & 255, i >> 16};
            String bits = Bits.plain(more);
            boolean even = bits.replace("1", "").length() % 2 == 0;
            if (even && !bits.contains("1111") && Model.check(Harness.join(ahead, more)) == Model.check(ahead)) {
                return more;
            }
        }
        throw new IllegalStateException("there are no such BYTES");
    }

    /**
     * "When nothing is heard the ROW is SHUT": what is heard ahead of and behind three BYTES that are not would be a
     * FRAME together, with the same CHECK, and from the same level on.
     */
    private static void rowIsShutWhenNothingIsHeard() {
        int[] ahead = new int[10];
        ahead[0] = 2;
        int[] behind = Harness.bytes(0, 1, 2, 4, 8, 16, 0);
        int[] hole = crcNeutral(ahead);
        int[] whole = Harness.join(ahead, hole, behind);
        Harness.due(6, "the CHECK with and without the hole", Model.check(whole), Model.check(Harness.join(ahead, behind)));
        Harness.due(6, "the bits are the BYTES", Bits.of(whole).length(), 8 * 22);
        for (int deaf = 0; deaf < 2; deaf++) {
            Harness h = new Harness();
            h.call().tune(0, 0, 256);
            h.raw(0, whole);
            h.run(16 + 80);
            h.call().hears(3, 0, deaf == 0);
            h.run(24);
            h.call().hears(3, 0, true);
            Harness.due(17, "run to the end", h.run(9 * 8 + 8), 5 - deaf);
            dueStation(h, 3, 6, 1 - deaf);
            dueStation(h, 2, 6, 1);
        }
    }

    /**
     * "When nothing is heard .. ONES 0 (LAST stays)": a station hears a 0 and so many 1s, then nothing, then from the
     * second bit of a FLAG on. LAST is 1. If that is the sender's LEVEL, it hears six 1s and a 0, and that was a FLAG.
     */
    private static void onesAre0WhenNothingIsHeard() {
        for (int ones = 0; ones <= 6; ones++) {
            for (int level = 0; level <= 1; level++) {
                int sought = level;
                int[] frame = Bits.find(15, f -> levelInTheSecondFlag(f) == sought);
                Harness h = new Harness();
                h.call().tune(0, 0, 256);
                h.call().tune(0, 2, 1);
                h.raw(0, frame);
                h.run(1 + ones);
                h.call().hears(3, 0, false);
                h.run(ticksOf(frame, 1) - ones);
                h.raw(0, frame);
                h.run(1);
                dueStation(h, 0, 3, level);
                h.call().hears(3, 0, true);
                h.run(ticksOf(frame, 1) - 1);
                Harness.due(6, "FRAMES, LAST 1, LEVEL " + level + ", " + ones + " 1s", h.station(3, 6), level);
            }
        }
    }

    /** The LEVEL behind the first 0 of a second SENDING, LEAD being 1. */
    private static int levelInTheSecondFlag(int[] frame) {
        return (FLAG + Bits.of(frame) + FLAG + "0").replace("1", "").length() % 2;
    }

    /** Runs a TICK for each level that is sent; by NOISE a station hears others instead. */
    private static int runHearing(Harness h, int station, int[] sent, int[] heard) {
        int arrived = 0;
        for (int i = 0; i < sent.length; ) {
            boolean noisy = sent[i] != heard[i];
            int first = i;
            while (i < sent.length && noisy == (sent[i] != heard[i])) {
                i++;
            }
            arrived += noisy ? h.runWithNoise(station, i - first) : h.run(i - first);
        }
        return arrived;
    }

    /**
     * "a STRAY if none .. has in this TICK sent the last bit of the FLAG behind just such a FRAME": NOISE makes another
     * FRAME, of the same length, with a CHECK of its own.
     */
    private static void strayOfAnotherFrame() {
        // A level that is turned turns two bits; these turned together keep the CHECK right.
        int[] first = new int[20];
        int[][] seconds = {first.clone(), first.clone(), first.clone()};
        seconds[0][0] = 1;
        seconds[1][19] = 128;
        seconds[2][10] = 16;
        for (int[] second : seconds) {
            int[] sent = Bits.levels(FLAG + Bits.of(first) + FLAG, 0);
            int[] heard = Bits.levels(FLAG + Bits.of(second) + FLAG, 0);
            Harness.due(6, "levels of both", heard.length, sent.length);
            Harness h = new Harness();
            h.call().tune(0, 0, 256);
            h.call().tune(0, 2, 1);
            h.raw(0, first);
            int arrived = runHearing(h, 3, sent, heard);
            Harness.due(17, "FRAMES", arrived, 5);
            dueStation(h, 3, 6, 1);
            dueStation(h, 3, 7, 1);
            dueStation(h, 2, 7, 0);
        }
    }

    /** "behind just such a FRAME": NOISE makes a FLAG within a FRAME whose end is a FRAME of its own. */
    private static void strayOfAnotherLength() {
        int[] tail = Harness.row(15, 0);
        // Behind these BYTES, and 126, the CHECK begins as at first.
        int[] head = null;
        for (int i = 0; i < 65536 && head == null; i++) {
            int[] tried = {0, i & 255, i >> 8, 0, 126};
            if (Model.check(tried) == 0 && !Bits.plain(tried[1], tried[2], 0).contains("1111")) {
                head = tried;
            }
        }
        int[] whole = Harness.join(head, tail);
        Harness.due(5, "the CHECK of all is that of the end", Model.check(whole), Model.check(tail));
        Harness.due(5, "no 0 is put ahead of 126", Bits.of(whole).startsWith(Bits.plain(0, head[1], head[2], 0) + "0111110"),
                true);
        Harness h = new Harness();
        h.call().tune(0, 0, 256);
        h.raw(0, whole);
        // 0 1 1 1 1 1 (0) 1 0 is sent; its second bit and the 0 between are to be turned: then a FLAG ends with it.
        h.run(16 + 32 + 1);
        h.runWithNoise(3, 5);
        int left = ticksOf(whole, 2) - (16 + 32 + 1 + 5);
        Harness.due(17, "run to the last TICK", h.run(left - 1), 0);
        Harness.due(17, "the last TICK", h.run(1), 5);
        dueStation(h, 3, 6, 1);
        dueStation(h, 3, 7, 1);
        dueStation(h, 2, 6, 1);
        dueStation(h, 2, 7, 0);
    }

    /** A FRAME that holds another one and its CHECK, and a BYTE that NOISE makes a FLAG in one TICK. */
    private static int[] holding(int[] inner) {
        return Harness.join(Bits.withCheck(inner), Harness.bytes(126, 0, 0, 0));
    }

    private static int noisyBitOf(int[] inner) {
        return Bits.of(inner).length() + 6;
    }

    /** "has in this TICK sent": the FRAME has been sent before, but this one comes out of another one. */
    private static void strayOfAnotherTick() {
        int[] inner = Harness.row(15, 1);
        Harness h = new Harness();
        h.call().tune(1, 0, 256);
        h.call().tune(0, 0, 256);
        h.raw(1, inner);
        Harness.due(17, "run of the FRAME itself", h.run(ticksOf(inner, 2) + 1), 5);
        dueStation(h, 3, 7, 0);
        h.raw(0, holding(inner));
        h.run(16 + noisyBitOf(inner));
        h.runWithNoise(3, 1);
        Harness.due(17, "run to the STRAY", h.run(1), 1);
        dueStation(h, 3, 6, 2);
        dueStation(h, 3, 7, 1);
        // And once more when it is the same station that has sent it before.
        h.run(200);
        h.raw(0, inner);
        h.run(ticksOf(inner, 2) + 1);
        dueStation(h, 3, 7, 1);
        h.raw(0, holding(inner));
        h.run(16 + noisyBitOf(inner));
        h.runWithNoise(3, 1);
        Harness.due(17, "run to the STRAY", h.run(1), 1);
        dueStation(h, 3, 7, 2);
    }

    /** "has in this TICK sent the last bit": the FRAME is sent for the second time, and NOISE brings it too early. */
    private static void strayOfTheSameFrameBefore() {
        int[] frame = Bits.find(15, f -> Bits.of(f).length() == 136);
        String once = Bits.of(frame) + FLAG;
        int[] sent = Bits.levels(FLAG + once + once, 0);
        for (int early : new int[] {0, 1, 30}) {
            // It is heard from its own FLAG on, so many TICKS early, and nothing ahead of that.
            int first = 8 + 144 - 8 - early;
            int[] heard = java.util.Arrays.copyOf(sent, first + 8 + 144);
            int level = heard[first - 1];
            System.arraycopy(Bits.levels(FLAG + once, level), 0, heard, first, 8 + 144);
            Harness h = new Harness();
            h.call().tune(0, 0, 256);
            h.call().tune(0, 2, 1);
            h.raw(0, frame);
            h.raw(0, frame);
            h.call().hears(3, 0, false);
            h.run(first - 1);
            h.call().hears(3, 0, true);
            h.run(1);
            int[] rest = java.util.Arrays.copyOfRange(sent, first, heard.length);
            runHearing(h, 3, rest, java.util.Arrays.copyOfRange(heard, first, heard.length));
            Harness.due(19, "ARRIVED " + early + " TICKS early", h.station(3, 6), 1);
            Harness.due(19, "STRAYS", h.station(3, 7), early == 0 ? 0 : 1);
        }
    }

    /** "none of those that are heard": one that is not heard ends the FRAME in the same TICK. */
    private static void strayOfOneNotHeard() {
        int[] inner = Harness.row(15, 1);
        Harness h = new Harness();
        for (int s = 0; s < 6; s++) {
            h.call().tune(s, 0, s < 2 ? 256 : 0);
        }
        h.call().hears(0, 1, false);
        h.call().hears(1, 0, false);
        h.call().hears(3, 1, false);
        h.call().hears(4, 0, false);
        h.raw(0, holding(inner));
        // 0 1 1 1 1 1 1 0: both end with the same bit.
        h.raw(1, inner);
        int noisy = 16 + noisyBitOf(inner);
        h.run(noisy);
        h.runWithNoise(3, 1);
        Harness.due(17, "run to the STRAY and the FRAME itself", h.run(1), 2);
        dueStation(h, 3, 6, 1);
        dueStation(h, 3, 7, 1);
        dueStation(h, 4, 6, 1);
        dueStation(h, 4, 7, 0);
    }

    /** "So many TICKS, 1 .. 1000: ..; NONE for another n."; "TIME: how many TICKS there were." */
    private static void runOf1To1000() {
        Harness h = new Harness();
        int time = 0;
        for (int n : new int[] {LOW, -1000, -1, 0, 1, 2, 999, 1000, 1001, 2000, HIGH}) {
            boolean fits = n >= 1 && n <= 1000;
            Harness.due(17, "run(" + n + ")", h.run(n), fits ? 0 : -1);
            time += fits ? n : 0;
            Harness.due(18, "time() behind run(" + n + ")", h.call().time(), time);
        }
    }

    /** "Of a station what 0 .. 10 .. NONE for others." */
    private static void stationOf0To10() {
        Harness h = new Harness();
        for (int what : new int[] {LOW, -1, 0, 10, 11, HIGH}) {
            Harness.due(19, "station(5, " + what + ")", h.station(5, what), what == 0 || what == 10 ? 0 : -1);
        }
        for (int s : NO_STATIONS) {
            Harness.due(19, "station(" + s + ", 0)", h.station(s, 0), -1);
            Harness.due(19, "station(" + s + ", 10)", h.station(s, 10), -1);
        }
    }

    /** "BYTE i of FRAME k of a station's QUEUE, the first one 0; NONE if there is none such." */
    private static void queuedWithin() {
        Harness h = new Harness();
        h.call().tune(0, 0, 0);
        Harness.due(23, "queued(0, 0, 0) of none", h.call().queued(0, 0, 0), -1);
        for (int k = 0; k < 12; k++) {
            h.raw(0, Harness.row(15 + k, 10 * k));
            for (int next : new int[] {k, k + 1, -1, LOW, HIGH}) {
                Harness.due(23, "queued(0, " + next + ", 0) of " + (k + 1), h.call().queued(0, next, 0),
                        next == k ? 10 * k : -1);
            }
            for (int i : new int[] {LOW, -1, 14 + k, 15 + k, HIGH}) {
                Harness.due(23, "queued(0, " + k + ", " + i + ")", h.call().queued(0, k, i),
                        i == 14 + k ? 10 * k + 14 + k : -1);
            }
        }
    }
}
