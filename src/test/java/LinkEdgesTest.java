/**
 * Boundary cases of the LINKS of part III and of promises 10 to 13 and 20: a method for each sentence, which stands
 * above it. Station 2 is on the bench, its LINK to 4 (or to 0) is looked at.
 */
public final class LinkEdgesTest {
    private static final int LOW = Integer.MIN_VALUE;
    private static final int HIGH = Integer.MAX_VALUE;
    private static final int DM = Harness.DM;
    private static final int UA = Harness.UA;
    private static final int SABM = Harness.SABM;
    private static final int DISC = Harness.DISC;
    private static final int RR = Harness.RR;
    private static final int RNR = Harness.RNR;
    private static final int REJ = Harness.REJ;
    private static final int POLL = Harness.POLL;
    private static final int[] NO_STATIONS = {LOW, -2, -1, 6, 7, HIGH};
    /** UP by the SABM of 4. */
    private static final int MARK = 129;

    public static void main(String[] args) {
        callOfDifferentStations();
        callOfADownLinkAlone();
        callsModulo128();
        markOfTheHigherOne();
        leaveOfCallingOrUp();
        giveByTheMode();
        outboxOf200();
        readOf1To64();
        readOfMoreThanThereIs();
        readOfABusyLink();
        inboxOf64();
        linkOf0To15();
        linksOfTheFirstAndTheLastStation();
        takenByEachStation();
        sabmOfTheOtherHalf();
        sabmOfTheMark();
        seenModulo128();
        sabmBetweenCallers();
        anotherMark();
        numberRModulo8();
        numberROfAllKinds();
        numberTModulo8();
        vsModulo8();
        clockBehindR();
        fewerThanFourSent();
        fewerThanEightInTheQueue();
        sixteenOfTheOutbox();
        clockOfTheFirstAlone();
        heldWithSomethingAlone();
        triesOfACall();
        triesOfALeave();
        triesOfAPoll();
        pollsAsBusy();
        pollsEndByF();
        againWithNothingSent();
        againWhileHeld();
        againIntoAFullQueue();
        rejectOnce();
        repeatedByTheFirst();
        answersByNoneToTwoVias();
        Harness.finish();
    }

    private static int[] information(int t, int r, int... bytes) {
        return Harness.join(Harness.bytes(2 * t + 32 * r, MARK, 240), bytes);
    }

    private static Bench upBench() {
        Bench b = new Bench(2).unheard();
        b.h.call().tune(2, 4, 20000);
        b.up(4);
        b.drain();
        return b;
    }

    /** "with VIAS v, w (NONE: none; w is NONE if v is): ..; false if .. these are not all different stations" */
    private static void callOfDifferentStations() {
        for (int v : new int[] {LOW, -2, -1, 0, 1, 2, 3, 5, 6, HIGH}) {
            for (int w : new int[] {LOW, -2, -1, 0, 1, 2, 4, 5, 6, HIGH}) {
                Harness h = new Harness();
                boolean vFits = v == 0 || v == 1 || v == 3 || v == 5;
                boolean wFits = w == 0 || w == 1 || w == 5;
                boolean due = w == -1 && (v == -1 || vFits) || vFits && wFits && v != w;
                Harness.due(10, "call(2, 4, " + v + ", " + w + ")", h.call().call(2, 4, v, w), due);
                Harness.due(10, "MODE", h.link(2, 4, 0), due ? 1 : 0);
                Harness.due(10, "the first VIA", h.link(2, 4, 14), due ? v : -1);
                Harness.due(10, "the second VIA", h.link(2, 4, 15), due ? w : -1);
                Harness.due(10, "FRAMES", h.station(2, 1), due ? 1 : 0);
            }
        }
        Harness h = new Harness();
        for (int k : NO_STATIONS) {
            Harness.due(10, "call(" + k + ", 4)", h.call().call(k, 4, -1, -1), false);
            Harness.due(10, "call(2, " + k + ")", h.call().call(2, k, -1, -1), false);
        }
        for (int k = 0; k < 6; k++) {
            Harness.due(10, "call(" + k + ", " + k + ")", h.call().call(k, k, -1, -1), false);
        }
    }

    /** "false if it is not DOWN" */
    private static void callOfADownLinkAlone() {
        Bench b = new Bench(2);
        Harness.due(10, "call when DOWN", b.h.call().call(2, 4, -1, -1), true);
        Harness.due(10, "call when CALLING", b.h.call().call(2, 4, 1, -1), false);
        b.due(10, 4, 14, -1);
        b.due(10, 4, 13, 1);
        b.hearResponse(4, UA, 1);
        Harness.due(10, "call when UP", b.h.call().call(2, 4, 1, -1), false);
        b.due(10, 4, 0, 2);
        b.h.call().leave(2, 4);
        Harness.due(10, "call when LEAVING", b.h.call().call(2, 4, 1, -1), false);
        b.due(10, 4, 0, 3);
        b.dueStation(1, 2);
        b.hearResponse(4, UA, 1);
        Harness.due(10, "call when DOWN again", b.h.call().call(2, 4, 1, -1), true);
        b.due(10, 4, 13, 2);
        // The LINK at the other end is another one.
        Harness.due(10, "call(4, 2)", b.h.call().call(4, 2, -1, -1), true);
    }

    /** "CALLS: how often s has called o, modulo 128"; "MARK is CALLS" */
    private static void callsModulo128() {
        int[][] ends = {{1, 3}, {3, 1}};
        for (int[] e : ends) {
            Harness h = new Harness();
            h.call().tune(e[0], 0, 0);
            h.call().tune(e[0], 4, 100);
            int more = e[0] > e[1] ? 128 : 0;
            for (int i = 1; i <= 130; i++) {
                h.call().call(e[0], e[1], -1, -1);
                if (i <= 2 || i >= 126) {
                    Harness.due(10, "MARK of call " + i, h.link(e[0], e[1], 13), i % 128 + more);
                }
                h.run(600);
            }
        }
        // Each of its LINKS counts for itself.
        Harness h = new Harness();
        h.call().call(1, 3, -1, -1);
        h.call().call(1, 4, -1, -1);
        Harness.due(10, "MARK of another LINK's first call", h.link(1, 4, 13), 1);
    }

    /** "and 128 more if s is above o" */
    private static void markOfTheHigherOne() {
        for (int s = 0; s < 6; s++) {
            for (int o = 0; o < 6; o++) {
                if (s != o) {
                    Harness h = new Harness();
                    h.call().call(s, o, -1, -1);
                    Harness.due(10, "MARK of " + s + " to " + o, h.link(s, o, 13), s > o ? 129 : 1);
                    Harness.due(10, "MARK in the SABM", h.call().queued(s, 0, 15), s > o ? 129 : 1);
                }
            }
        }
    }

    /** "The LINK, CALLING or UP, ..: true; false if it is not so, or there is none such." */
    private static void leaveOfCallingOrUp() {
        Bench b = new Bench(2);
        for (int k : NO_STATIONS) {
            Harness.due(11, "leave(" + k + ", 2)", b.h.call().leave(k, 2), false);
            Harness.due(11, "leave(2, " + k + ")", b.h.call().leave(2, k), false);
        }
        Harness.due(11, "leave(2, 2)", b.h.call().leave(2, 2), false);
        Harness.due(11, "leave when DOWN", b.h.call().leave(2, 4), false);
        b.dueStation(1, 0);
        b.h.call().call(2, 4, -1, -1);
        Harness.due(11, "leave when CALLING", b.h.call().leave(2, 4), true);
        Harness.due(11, "leave when LEAVING", b.h.call().leave(2, 4), false);
        b.dueStation(1, 2);
        b.hearResponse(4, DM, 1);
        Harness.due(11, "leave when DOWN again", b.h.call().leave(2, 4), false);
        b.up(0);
        Harness.due(11, "leave when UP", b.h.call().leave(2, 0), true);
        b.dueLast(11, 4, Harness.command(2, 0, DISC + POLL, 1));
    }

    /** "NONE if there is no such LINK; STATE if it is not UP" */
    private static void giveByTheMode() {
        Bench b = new Bench(2);
        for (int k : NO_STATIONS) {
            Harness.due(12, "give(" + k + ", 2)", b.h.give(k, 2, 1), -1);
            Harness.due(12, "give(2, " + k + ")", b.h.give(2, k, 1), -1);
        }
        Harness.due(12, "give(2, 2)", b.h.give(2, 2, 1), -1);
        Harness.due(12, "give when DOWN", b.h.give(2, 4, 1), -3);
        b.h.call().call(2, 4, -1, -1);
        Harness.due(12, "give when CALLING", b.h.give(2, 4, 1), -3);
        Harness.due(12, "give of too many when CALLING", b.h.give(2, 4, new int[201]), -3);
        b.hearResponse(4, UA, 1);
        Harness.due(12, "give when UP", b.h.give(2, 4, 1), 1);
        b.h.call().leave(2, 4);
        b.due(12, 4, 9, 0);
        Harness.due(12, "give when LEAVING", b.h.give(2, 4, 1), -3);
        b.due(12, 4, 9, 0);
    }

    /** "OUTBOX, at most 200 BYTES"; "FULL, and none comes, if they would be more than 200" */
    private static void outboxOf200() {
        for (int first : new int[] {0, 1, 199, 200, 201, 260}) {
            for (int second : new int[] {0, 1, 199, 200, 201, 260}) {
                Bench b = new Bench(2);
                b.up(4);
                int has = first <= 200 ? first : 0;
                Harness.due(12, "give of " + first, b.h.give(2, 4, Harness.row(first, 7)), first <= 200 ? first : -2);
                b.due(12, 4, 9, has);
                Harness.due(12, "the TAPE behind it", b.h.call().end(1), false);
                boolean fits = has + second <= 200;
                Harness.due(12, "give of " + second + " to " + has, b.h.give(2, 4, Harness.row(second, 99)),
                        fits ? has + second : -2);
                b.due(12, 4, 9, fits ? has + second : has);
                Harness.due(12, "the TAPE behind it", b.h.call().end(1), false);
            }
        }
        // All 200 are said, in their order, and none of those that were refused.
        Bench b = upBench();
        b.h.give(2, 4, Harness.row(200, 1));
        b.h.give(2, 4, 77);
        for (int i = 0; i < 13; i += 4) {
            if (i > 0) {
                b.hearResponse(4, RR + 32 * (i % 8), MARK);
            }
            b.h.run(4);
            b.dueStation(1, Math.min(4, 13 - i));
            for (int k = i; k < Math.min(13, i + 4); k++) {
                int[] content = Harness.row(k < 12 ? 16 : 8, 16 * k + 1);
                Harness.due(12, "CONTROL of I " + k, b.h.call().queued(2, k - i, 14), 2 * (k % 8));
                Harness.due(12, "the first BYTE of I " + k, b.h.call().queued(2, k - i, 17), content[0]);
                int last = 16 + content.length;
                Harness.due(12, "the last BYTE of I " + k, b.h.call().queued(2, k - i, last), content[content.length - 1]);
                Harness.due(12, "no BYTE behind it", b.h.call().queued(2, k - i, last + 1), -1);
            }
            b.drain();
        }
        b.due(12, 4, 9, 0);
    }

    /** "NONE if there is no such LINK, or n is not 1 .. 64" */
    private static void readOf1To64() {
        Bench b = new Bench(2);
        b.up(4);
        b.hearCommand(4, information(0, 0, 50, 51, 52));
        b.h.letter(2, 2, 9);
        b.h.call().take(2);
        for (int n : new int[] {LOW, -1, 0, 65, 66, HIGH}) {
            Harness.due(13, "read(2, 4, " + n + ")", b.h.call().read(2, 4, n), -1);
        }
        for (int k : NO_STATIONS) {
            Harness.due(13, "read(" + k + ", 4, 1)", b.h.call().read(k, 4, 1), -1);
            Harness.due(13, "read(2, " + k + ", 1)", b.h.call().read(2, k, 1), -1);
        }
        Harness.due(13, "read(2, 2, 1)", b.h.call().read(2, 2, 1), -1);
        b.due(13, 4, 10, 3);
        Harness.dueRow(13, "the OUT that stays", b.h.out(), Harness.bytes(9));
        Harness.due(13, "read(2, 4, 1)", b.h.call().read(2, 4, 1), 1);
        Harness.dueRow(13, "the OUT", b.h.out(), Harness.bytes(50));
        Harness.due(13, "read(2, 4, 64)", b.h.call().read(2, 4, 64), 2);
        Harness.dueRow(13, "the OUT", b.h.out(), Harness.bytes(51, 52));
    }

    /** "The first n BYTES of the INBOX, or all if there are fewer" */
    private static void readOfMoreThanThereIs() {
        for (int n : new int[] {1, 4, 5, 6, 64}) {
            Bench b = new Bench(2);
            b.up(4);
            b.hearCommand(4, information(0, 0, 60, 61, 62, 63, 64));
            int count = Math.min(n, 5);
            Harness.due(13, "read of " + n, b.h.call().read(2, 4, n), count);
            Harness.dueRow(13, "the OUT", b.h.out(), Harness.row(count, 60));
            b.due(13, 4, 10, 5 - count);
            Harness.due(13, "read of the rest", b.h.call().read(2, 4, 64), 5 - count);
            Harness.dueRow(13, "the OUT", b.h.out(), Harness.row(5 - count, 60 + count));
            Harness.due(13, "read of nothing", b.h.call().read(2, 4, 1), 0);
            Harness.dueRow(13, "the OUT", b.h.out(), new int[0]);
        }
        Harness h = new Harness();
        Harness.due(13, "read of a LINK that is DOWN", h.call().read(0, 1, 64), 0);
    }

    /** A LINK to 4 that is UP, with so many BYTES in its INBOX, the QUEUE being empty. */
    private static Bench withInbox(int count) {
        Bench b = upBench();
        int t = 0;
        for (int at = 0; at < count; t++) {
            int size = Math.min(count - at, at + 16 > 48 && at < 48 ? 48 - at : 16);
            b.hearCommand(4, information(t % 8, 0, Harness.row(size, at)));
            at += size;
        }
        b.due(20, 4, 10, count);
        b.drain();
        return b;
    }

    /** "it is BUSY if these are more than 48"; "if it was BUSY, is not any more, and is UP, RR .. is SAID" */
    private static void readOfABusyLink() {
        int[][] due = {{48, 1, 0}, {49, 1, 1}, {49, 2, 1}, {50, 1, 0}, {50, 2, 1}, {64, 15, 0}, {64, 16, 1}, {64, 64, 1}};
        for (int[] d : due) {
            Bench b = withInbox(d[0]);
            int vr = b.h.link(2, 4, 3);
            b.h.call().read(2, 4, d[1]);
            Harness.due(13, "RR by a read of " + d[1] + " of " + d[0], b.h.station(2, 1), d[2]);
            if (d[2] == 1) {
                b.dueLast(13, 1, Harness.response(2, 4, RR + 32 * vr, MARK));
            }
        }
        // LEAVING or DOWN: nothing.
        Bench b = withInbox(49);
        b.h.call().leave(2, 4);
        b.h.call().read(2, 4, 1);
        b.dueStation(1, 1);
        b = withInbox(49);
        b.hearResponse(4, DM, MARK);
        b.h.call().read(2, 4, 1);
        b.dueStation(1, 0);
    }

    /** "INBOX, at most 64 BYTES; it is BUSY if these are more than 48"; "if BUSY, RNR as RESPONSE is SAID; else .." */
    private static void inboxOf64() {
        for (int count : new int[] {47, 48, 49, 64}) {
            Bench b = withInbox(count);
            int vr = b.h.link(2, 4, 3);
            boolean busy = count > 48;
            b.hearCommand(4, RR + POLL, MARK);
            b.dueLast(20, 1, Harness.response(2, 4, (busy ? RNR : RR) + POLL + 32 * vr, MARK));
            b.hearCommand(4, information(vr, 0, Harness.row(16, 100)));
            b.due(20, 4, 10, busy ? count : count + 16);
            b.due(20, 4, 3, busy ? vr : (vr + 1) % 8);
            b.dueLast(20, 2, Harness.response(2, 4, RNR + 32 * (busy ? vr : (vr + 1) % 8), MARK));
        }
        // 48 and 16 are 64, and all are read.
        Bench b = withInbox(48);
        b.hearCommand(4, information(3, 0, Harness.row(16, 48)));
        b.hearCommand(4, information(4, 0, 200));
        Harness.due(13, "read of 64", b.h.call().read(2, 4, 64), 64);
        Harness.dueRow(13, "the OUT", b.h.out(), Harness.row(64, 0));
        // With 32 and 16 it is not BUSY yet: RR.
        b = withInbox(32);
        b.hearCommand(4, information(2, 0, Harness.row(16, 32)));
        b.dueLast(20, 1, Harness.response(2, 4, RR + 32 * 3, MARK));
    }

    /** "Of the LINK at s to o what 0 .. 15 .. NONE for others." */
    private static void linkOf0To15() {
        Harness h = new Harness();
        for (int what : new int[] {LOW, -1, 0, 13, 14, 15, 16, HIGH}) {
            Harness.due(20, "link(0, 5, " + what + ")", h.link(0, 5, what), what == 0 || what == 13 ? 0 : -1);
        }
        h.call().call(0, 5, 1, 2);
        Harness.due(20, "link(0, 5, 14)", h.link(0, 5, 14), 1);
        Harness.due(20, "link(0, 5, 15)", h.link(0, 5, 15), 2);
        Harness.due(20, "link(0, 5, 16)", h.link(0, 5, 16), -1);
        for (int k : NO_STATIONS) {
            Harness.due(20, "link(" + k + ", 0, 0)", h.link(k, 0, 0), -1);
            Harness.due(20, "link(0, " + k + ", 0)", h.link(0, k, 0), -1);
        }
        for (int k = 0; k < 6; k++) {
            Harness.due(20, "link(" + k + ", " + k + ", 0)", h.link(k, k, 0), -1);
        }
    }

    /** "by stations, then the other ends, from 0 on": CLOCKS go on, and what may be said is said, from 0 to 5. */
    private static void linksOfTheFirstAndTheLastStation() {
        int[][] ends = {{0, 1}, {0, 5}, {5, 0}, {5, 4}, {1, 0}, {4, 5}};
        for (int[] e : ends) {
            Harness h = new Harness();
            for (int s = 0; s < 6; s++) {
                h.call().tune(s, 0, 256);
            }
            h.call().call(e[0], e[1], -1, -1);
            h.run(1);
            Harness.due(20, "CLOCK of " + e[0] + " to " + e[1], h.link(e[0], e[1], 4), 1499);
            h.run(600);
            Harness.due(20, "MODE of " + e[0] + " to " + e[1], h.link(e[0], e[1], 0), 2);
            h.give(e[0], e[1], 65);
            h.give(e[1], e[0], 66);
            h.run(1);
            Harness.due(20, "SENT", h.link(e[0], e[1], 12), 1);
            Harness.due(20, "SENT by the other end", h.link(e[1], e[0], 12), 1);
        }
    }

    /** "What has ARRIVED is TAKEN (III), by stations from 0 on.": by those of each row of ears, and by them alone */
    private static void takenByEachStation() {
        for (int from = 0; from < 6; from += 5) {
            for (int ears = 0; ears < 64; ears++) {
                Harness h = new Harness();
                h.call().tune(from, 0, 256);
                for (int s = 0; s < 6; s++) {
                    if (s != from) {
                        h.call().hears(s, from, (ears >> s & 1) != 0);
                    }
                }
                h.raw(from, Harness.nodes(from));
                h.run(300);
                for (int s = 0; s < 6; s++) {
                    boolean takes = s != from && (ears >> s & 1) != 0;
                    Harness.due(19, "ARRIVED at " + s + ", ears " + ears, h.station(s, 6), takes ? 1 : 0);
                    Harness.due(22, "best(" + s + ", " + from + ")", h.call().best(s, from), takes ? from : -1);
                }
            }
        }
    }

    /** "its MARK n, and 128 more if o is above s (else nothing)" */
    private static void sabmOfTheOtherHalf() {
        for (int mark : new int[] {1, 63, 127, 128, 129, 191, 255}) {
            int n = mark % 128;
            boolean counts = n >= 1 && n <= 63;
            Bench b = new Bench(2);
            b.hearCommand(4, SABM, mark);
            Harness.due(20, "MODE by a SABM from above, MARK " + mark, b.h.link(2, 4, 0), mark >= 128 && counts ? 2 : 0);
            b.dueStation(1, mark >= 128 && counts ? 1 : 0);
            b = new Bench(2);
            b.hearCommand(0, SABM, mark);
            Harness.due(20, "MODE by a SABM from below, MARK " + mark, b.h.link(2, 0, 0), mark < 128 && counts ? 2 : 0);
            b.dueStation(1, mark < 128 && counts ? 1 : 0);
        }
    }

    /** "MARK (0 at first)"; "if it is the LINK's MARK: UA is ANSWERED if it is UP, else DM" */
    private static void sabmOfTheMark() {
        Bench b = new Bench(2);
        b.hearCommand(0, SABM, 0);
        b.dueLast(20, 1, Harness.response(2, 0, DM, 0));
        b.due(20, 0, 0, 0);
        // From above a MARK of 0 is nothing, and 128 is not the LINK's.
        b.hearCommand(4, SABM, 0);
        b.hearCommand(4, SABM, 128);
        b.dueStation(1, 1);
        b.hearCommand(0, SABM, 1);
        b.dueLast(20, 2, Harness.response(2, 0, UA, 1));
        b.hearCommand(0, SABM + POLL, 1);
        b.dueLast(20, 3, Harness.response(2, 0, UA + POLL, 1));
        b.h.call().leave(2, 0);
        b.hearCommand(0, SABM, 1);
        b.dueLast(20, 5, Harness.response(2, 0, DM, 1));
        b.due(20, 0, 0, 3);
        b.hearResponse(0, UA, 1);
        b.hearCommand(0, SABM + POLL, 1);
        b.dueLast(20, 6, Harness.response(2, 0, DM + POLL, 1));
        b.due(20, 0, 0, 0);
    }

    /** "if n less SEEN is modulo 128 not 1 .. 63: nothing. Else SEEN is n" */
    private static void seenModulo128() {
        for (int o : new int[] {0, 4}) {
            int half = o > 2 ? 128 : 0;
            for (int seen : new int[] {0, 1, 63, 64, 65, 126, 127}) {
                for (int step : new int[] {0, 1, 2, 62, 63, 64, 65, 126, 127}) {
                    Bench b = new Bench(2);
                    for (int at = 0; at < seen; ) {
                        at = Math.min(seen, at + 63);
                        b.hearCommand(o, SABM, half + at);
                    }
                    int before = b.h.link(2, o, 13);
                    int frames = b.h.station(2, 1);
                    int mark = half + (seen + step) % 128;
                    b.hearCommand(o, SABM, mark);
                    boolean comes = step >= 1 && step <= 63;
                    String what = "SEEN " + seen + ", a SABM of " + step + " more, from " + o;
                    Harness.due(20, what, b.h.link(2, o, 13), comes ? mark : before);
                    // UA, or DM at a LINK that is DOWN, to its own MARK.
                    boolean own = before == mark;
                    Harness.due(20, what + ", FRAMES", b.h.station(2, 1) - frames, comes || own ? 1 : 0);
                }
            }
        }
    }

    /** "if it is CALLING and s below o: DM is ANSWERED; else it is CLEARED, .., UP" */
    private static void sabmBetweenCallers() {
        for (int o = 0; o < 6; o++) {
            if (o == 2) {
                continue;
            }
            Bench b = new Bench(2);
            b.h.call().call(2, o, -1, -1);
            int half = o > 2 ? 128 : 0;
            b.hearCommand(o, SABM + POLL, half + 1);
            b.due(20, o, 0, o > 2 ? 1 : 2);
            b.dueLast(20, 2, Harness.response(2, o, (o > 2 ? DM : UA) + POLL, half + 1));
            // It is SEEN in both cases: the same one again is old, or the LINK's own.
            b.hearCommand(o, SABM, half + 1);
            b.dueStation(1, o > 2 ? 2 : 3);
            b.hearCommand(o, SABM, half + 2);
            b.dueStation(1, o > 2 ? 3 : 4);
            b.due(20, o, 0, o > 2 ? 1 : 2);
        }
        // UP and LEAVING are not CALLING.
        for (int leaving = 0; leaving < 2; leaving++) {
            Bench b = new Bench(2);
            b.h.call().call(2, 4, -1, -1);
            b.hearResponse(4, UA, 1);
            if (leaving == 1) {
                b.h.call().leave(2, 4);
            }
            b.hearCommand(4, SABM, 129);
            b.due(20, 4, 0, 2);
            b.due(20, 4, 13, 129);
        }
    }

    /** "Another one whose MARK is not the LINK's, or when that is DOWN: DM .. to a COMMAND, nothing to a RESPONSE." */
    private static void anotherMark() {
        for (int mark : new int[] {MARK - 1, MARK, MARK + 1, 1, 0, 255}) {
            Bench b = new Bench(2);
            b.up(4);
            b.hearCommand(4, DISC, mark);
            boolean own = mark == MARK;
            b.dueLast(20, 2, Harness.response(2, 4, own ? UA : DM, mark));
            b.due(20, 4, 0, own ? 0 : 2);
            // DOWN: also with its own MARK.
            b.hearCommand(4, DISC + POLL, mark);
            b.dueLast(20, 3, Harness.response(2, 4, DM + POLL, mark));
            b.hearResponse(4, DM, mark);
            b.dueStation(1, 3);
            b.due(20, 4, 0, own ? 0 : 2);
        }
        Bench b = new Bench(2);
        b.hearCommand(4, RR, 0);
        b.dueLast(20, 1, Harness.response(2, 4, DM, 0));
        b.hearResponse(4, UA, 0);
        b.dueStation(1, 1);
    }

    /** A LINK to 4 with VA such, and so many SENT. */
    private static Bench withWindow(int va, int sent) {
        Bench b = upBench();
        for (int at = 0; at < va; ) {
            int now = Math.min(4, va - at);
            b.h.give(2, 4, new int[16 * now]);
            b.h.run(now);
            at += now;
            b.drain();
            b.hearResponse(4, RR + 32 * (at % 8), MARK);
        }
        if (sent > 0) {
            b.h.give(2, 4, new int[16 * sent]);
            b.h.run(sent);
            b.drain();
        }
        b.dueLink(20, 4, 2, (va + sent) % 8, va % 8);
        b.due(20, 4, 12, sent);
        return b;
    }

    /** "if r less VA is modulo 8 more than VS less VA modulo 8: DM (without F) is SAID, then DOWN" */
    private static void numberRModulo8() {
        for (int va = 0; va <= 8; va++) {
            for (int sent = 0; sent <= 4; sent++) {
                for (int went = 0; went <= 7; went++) {
                    Bench b = withWindow(va, sent);
                    int r = (va + went) % 8;
                    b.hearCommand(4, RR + POLL + 32 * r, MARK);
                    boolean fits = went <= sent;
                    b.due(20, 4, 0, fits ? 2 : 0);
                    b.due(20, 4, 2, fits ? r : 0);
                    b.due(20, 4, 1, fits ? (va + sent) % 8 : 0);
                    b.due(20, 4, 12, fits ? sent - went : 0);
                    b.dueLast(20, 1, Harness.response(2, 4, fits ? RR + POLL : DM, MARK));
                }
            }
        }
    }

    /** "RR, RNR, REJ, I: First r: .. DOWN, and that is all": of COMMANDS and RESPONSES, also with N */
    private static void numberROfAllKinds() {
        int[][] kinds = {{RR, 1}, {RNR, 1}, {REJ, 1}, {RR, 0}, {RNR, 0}, {REJ, 0}, {RR + POLL, 0}, {REJ + POLL, 1}, {0, 1},
            {POLL, 1}, {2 * 3, 1}};
        for (int[] k : kinds) {
            for (int went = 2; went <= 3; went++) {
                Bench b = withWindow(6, 2);
                int control = k[0] + 32 * ((6 + went) % 8);
                boolean information = k[0] % 2 == 0;
                int[] rest = information ? Harness.bytes(control, MARK, 240, 9) : Harness.bytes(control, MARK);
                b.hear(Harness.frame(4, 2, k[1] == 1, new int[0], rest));
                b.due(20, 4, 0, went == 2 ? 2 : 0);
                b.due(20, 4, 2, 0);
                b.due(20, 4, 12, 0);
                b.due(20, 4, 10, went == 2 && (k[0] == 0 || k[0] == POLL) ? 1 : 0);
                if (went == 3) {
                    b.dueLast(20, 1, Harness.response(2, 4, DM, MARK));
                }
            }
        }
    }

    /** "I: if t is VR: .. VR is one more"; "VS, VA, VR (0 .. 7)" */
    private static void numberTModulo8() {
        for (int vr = 0; vr <= 8; vr++) {
            for (int t = 0; t <= 7; t++) {
                Bench b = upBench();
                for (int i = 0; i < vr; i++) {
                    b.hearCommand(4, information(i % 8, 0, i));
                }
                b.drain();
                b.hearCommand(4, information(t, 0, 99));
                boolean next = t == vr % 8;
                b.due(20, 4, 3, (vr + (next ? 1 : 0)) % 8);
                b.due(20, 4, 7, next ? 0 : 1);
                b.due(20, 4, 10, vr + (next ? 1 : 0));
                int due = next ? RR + 32 * ((vr + 1) % 8) : REJ + 32 * (vr % 8);
                b.dueLast(20, 1, Harness.response(2, 4, due, MARK));
            }
        }
    }

    /** "an I with VS .. is SAID, and is SENT, VS is one more"; "VS, VA, VR (0 .. 7)" */
    private static void vsModulo8() {
        Bench b = upBench();
        for (int i = 0; i < 10; i++) {
            b.h.give(2, 4, 100 + i);
            b.h.run(1);
            b.dueLink(20, 4, 2, (i + 1) % 8, i % 8);
            b.dueLast(20, 1, Harness.command(2, 4, information(i % 8, 0, 100 + i)));
            b.drain();
            b.hearResponse(4, RR + 32 * ((i + 1) % 8), MARK);
            b.due(20, 4, 2, (i + 1) % 8);
            b.due(20, 4, 12, 0);
        }
        // SAID again over the end of the numbers.
        b = withWindow(6, 4);
        b.hearResponse(4, REJ + 32 * 7, MARK);
        b.dueStation(1, 3);
        for (int i = 0; i < 3; i++) {
            Harness.due(20, "CONTROL of one said again", b.h.call().queued(2, i, 14), 2 * ((7 + i) % 8));
        }
    }

    /** "if one went TRIES is 0, and CLOCK T, or 0 if none is left and POLLS is off" */
    private static void clockBehindR() {
        for (int went = 0; went <= 2; went++) {
            Bench b = withWindow(0, 2);
            int clock = b.h.link(2, 4, 4);
            b.h.call().tune(2, 4, 9000);
            int[] ready = Harness.response(4, 2, RR + 32 * went, MARK);
            b.hear(ready);
            int due = went == 0 ? clock - 1 - Bench.ticksOf(ready, 1) : went == 1 ? 8999 : 0;
            Harness.due(20, "CLOCK when " + went + " of two went", b.h.link(2, 4, 4), due);
        }
        // With POLLS on it is T also when none is left; TRIES are 0 if one went, and stay if none.
        for (int went = 0; went <= 1; went++) {
            Bench b = new Bench(2).unheard();
            b.h.call().tune(2, 4, 300);
            b.up(4);
            b.h.give(2, 4, 1);
            b.h.run(1);
            b.h.run(300);
            b.due(20, 4, 6, 1);
            b.due(20, 4, 5, 1);
            b.h.call().tune(2, 4, 9000);
            b.hearResponse(4, RR + 32 * went, MARK);
            b.due(20, 4, 6, 1);
            b.due(20, 4, 5, 1 - went);
            b.due(20, 4, 12, 1 - went);
            if (went == 1) {
                b.due(20, 4, 4, 8999);
            }
        }
    }

    /** "SENT fewer than 4" */
    private static void fewerThanFourSent() {
        Bench b = upBench();
        b.h.give(2, 4, new int[96]);
        for (int i = 1; i <= 6; i++) {
            b.h.run(1);
            b.due(20, 4, 12, Math.min(i, 4));
            b.due(20, 4, 9, 96 - 16 * Math.min(i, 4));
        }
        b.dueStation(1, 4);
        b.drain();
        b.due(20, 4, 12, 4);
        // One that goes makes room for one.
        b.hearResponse(4, RR + 32, MARK);
        b.due(20, 4, 12, 4);
        b.due(20, 4, 9, 16);
        b.h.run(10);
        b.due(20, 4, 9, 16);
    }

    /** "and the QUEUE has fewer than 8" */
    private static void fewerThanEightInTheQueue() {
        for (int count = 6; count <= 9; count++) {
            Bench b = upBench();
            b.fill(count);
            b.h.give(2, 4, new int[48]);
            b.h.run(1);
            b.due(20, 4, 12, count < 8 ? 1 : 0);
            b.h.run(5);
            b.due(20, 4, 12, count < 8 ? 8 - count : 0);
            b.dueStation(1, Math.max(8, count));
        }
    }

    /** "its first 16 BYTES at most" */
    private static void sixteenOfTheOutbox() {
        for (int count : new int[] {1, 15, 16, 17, 32, 33}) {
            Bench b = upBench();
            b.h.give(2, 4, Harness.row(count, 3));
            b.h.run(1);
            b.dueLast(20, 1, Harness.command(2, 4, information(0, 0, Harness.row(Math.min(16, count), 3))));
            b.due(20, 4, 9, Math.max(0, count - 16));
            b.h.run(5);
            b.dueStation(1, (count + 15) / 16);
            b.due(20, 4, 12, (count + 15) / 16);
        }
    }

    /** "CLOCK T if it is 0" */
    private static void clockOfTheFirstAlone() {
        Bench b = upBench();
        b.due(20, 4, 4, 0);
        b.h.give(2, 4, new int[48]);
        b.h.run(1);
        b.due(20, 4, 4, 20000);
        b.h.run(1);
        b.due(20, 4, 12, 2);
        b.due(20, 4, 4, 19999);
        b.h.call().tune(2, 4, 500);
        b.h.run(1);
        b.due(20, 4, 12, 3);
        b.due(20, 4, 4, 19998);
    }

    /** "If HELD is on, CLOCK 0, and there is something in the OUTBOX, PACKETS or SENT: CLOCK is T." */
    private static void heldWithSomethingAlone() {
        Bench b = upBench();
        b.hearResponse(4, RNR, MARK);
        b.h.run(10);
        b.due(20, 4, 4, 0);
        b.h.give(2, 4, 1);
        b.h.run(1);
        b.due(20, 4, 4, 20000);
        b.due(20, 4, 9, 1);
        // HELD with all gone: the CLOCK stands.
        b = withWindow(0, 1);
        b.hearResponse(4, RNR + 32, MARK);
        b.h.run(10);
        b.due(20, 4, 8, 1);
        b.due(20, 4, 4, 0);
        // A PACKET alone.
        b = upBench();
        b.hear(Harness.nodes(4));
        b.hearResponse(4, RNR, MARK);
        b.h.letter(2, 4, 1);
        b.h.run(1);
        b.due(20, 4, 4, 20000);
        b.due(20, 4, 11, 1);
        // HELD off: nothing waits, and the CLOCK stands.
        b = upBench();
        b.hearResponse(4, RR, MARK);
        b.h.run(10);
        b.due(20, 4, 4, 0);
    }

    private static void dueTries(Bench b, int from, int frames, int mode, String what) {
        for (int tries = from; tries <= 6; tries++) {
            b.h.run(99);
            Harness.due(20, what + ": CLOCK ahead of try " + (tries + 1), b.h.link(2, 4, 4), 1);
            Harness.due(20, what + ": TRIES", b.h.link(2, 4, 5), tries);
            Harness.due(20, what + ": MODE", b.h.link(2, 4, 0), mode);
            Harness.due(20, what + ": FRAMES", b.h.station(2, 1), frames + tries - from);
            b.h.run(1);
        }
        b.dueLink(20, 4, 0, 0, 0, 0, 0, 0, 0, 0, 0, 0, 0, 0, 0);
    }

    /** "CLOCKS: .. if TRIES is 6: ..; DOWN. Else TRIES is one more, CLOCK T, and SAID is, ..: CALLING: SABM" */
    private static void triesOfACall() {
        Bench b = new Bench(2);
        b.h.call().tune(2, 4, 100);
        b.h.call().call(2, 4, -1, -1);
        dueTries(b, 1, 1, 1, "CALLING");
        b.dueLast(20, 6, Harness.command(2, 4, SABM + POLL, 1));
    }

    /** "LEAVING: DISC" */
    private static void triesOfALeave() {
        Bench b = new Bench(2);
        b.h.call().tune(2, 4, 100);
        b.h.call().call(2, 4, -1, -1);
        b.h.call().leave(2, 4);
        dueTries(b, 1, 2, 3, "LEAVING");
        b.dueLast(20, 7, Harness.command(2, 4, DISC + POLL, 1));
    }

    /** "if TRIES is 6: UP: DM (without F) is SAID; DOWN"; "UP: RR .. as COMMAND, POLLS is on" */
    private static void triesOfAPoll() {
        Bench b = new Bench(2);
        b.h.call().tune(2, 4, 100);
        b.up(4);
        b.h.give(2, 4, 1);
        b.h.run(1);
        dueTries(b, 0, 2, 2, "UP");
        b.dueStation(1, 9);
        Harness.dueRow(20, "the last poll", b.h.queued(2, 7), Harness.command(2, 4, RR + POLL, MARK));
        b.dueLast(20, 9, Harness.response(2, 4, DM, MARK));
        // What is TAKEN in time makes TRIES 0 again.
        b = new Bench(2).unheard();
        b.h.call().tune(2, 4, 300);
        b.up(4);
        b.h.give(2, 4, 1);
        b.h.run(1);
        for (int i = 0; i < 9; i++) {
            b.h.run(200);
        }
        b.due(20, 4, 5, 6);
        b.hearResponse(4, RR + POLL, MARK);
        b.due(20, 4, 5, 0);
        b.due(20, 4, 0, 2);
        b.due(20, 4, 6, 0);
    }

    /** "UP: RR, or RNR if BUSY, as COMMAND" */
    private static void pollsAsBusy() {
        for (int count : new int[] {48, 49}) {
            Bench b = withInbox(count);
            int vr = b.h.link(2, 4, 3);
            b.h.call().tune(2, 4, 100);
            b.h.give(2, 4, 1);
            b.h.run(101);
            b.dueLast(20, 2, Harness.command(2, 4, (count > 48 ? RNR : RR) + POLL + 32 * vr, MARK));
        }
    }

    /** "of a RESPONSE with F, if POLLS is on: POLLS off, TRIES 0, CLOCK 0, and AGAIN" */
    private static void pollsEndByF() {
        Object[][] due = {{true, RR + POLL, 1}, {false, RR, 1}, {false, RNR, 1}, {false, REJ, 1}, {true, RR, 1},
            {false, RR + POLL, 0}, {false, RNR + POLL, 0}, {false, REJ + POLL, 0}};
        for (Object[] d : due) {
            Bench b = new Bench(2).unheard();
            b.h.call().tune(2, 4, 300);
            b.up(4);
            b.h.give(2, 4, 1);
            b.h.run(301);
            b.h.call().tune(2, 4, 20000);
            b.dueStation(1, 3);
            b.due(20, 4, 6, 1);
            boolean command = (boolean) d[0];
            b.hear(Harness.frame(4, 2, command, new int[0], (int) d[1], MARK));
            b.due(20, 4, 6, (int) d[2]);
            b.due(20, 4, 5, (int) d[2]);
            boolean again = (int) d[2] == 0 && (int) d[1] != RNR + POLL;
            boolean answers = command && (int) d[1] == RR + POLL;
            b.dueStation(1, again || answers ? 4 : 3);
        }
    }

    /** "AGAIN: if there are SENT ones" */
    private static void againWithNothingSent() {
        Bench b = withWindow(0, 0);
        b.hearResponse(4, REJ, MARK);
        b.due(20, 4, 4, 0);
        b.dueStation(1, 0);
        b = withWindow(0, 1);
        b.h.call().tune(2, 4, 9000);
        b.hearResponse(4, REJ + 32, MARK);
        b.due(20, 4, 4, 0);
        b.dueStation(1, 0);
        b = withWindow(0, 1);
        b.h.call().tune(2, 4, 9000);
        b.hearResponse(4, REJ, MARK);
        b.due(20, 4, 4, 8999);
        b.dueStation(1, 1);
    }

    /** "CLOCK is T, and, if HELD is off, all are SAID again" */
    private static void againWhileHeld() {
        for (int kind : new int[] {RR, RNR}) {
            Bench b = new Bench(2).unheard();
            b.h.call().tune(2, 4, 300);
            b.up(4);
            b.h.give(2, 4, new int[64]);
            b.h.run(4);
            b.h.run(297);
            b.due(20, 4, 6, 1);
            b.h.call().tune(2, 4, 9000);
            int frames = b.h.station(2, 1);
            b.hearResponse(4, kind + POLL, MARK);
            b.due(20, 4, 4, 8999);
            b.due(20, 4, 12, 4);
            b.dueStation(1, kind == RR ? frames + 4 : frames);
        }
    }

    /** "comes to the QUEUE (or is LOST)": of four that are SAID again, as many as there is room for. */
    private static void againIntoAFullQueue() {
        for (int count = 7; count <= 12; count++) {
            Bench b = withWindow(0, 4);
            b.fill(count);
            b.hearResponse(4, REJ, MARK);
            int came = Math.min(4, 12 - count);
            b.dueStation(1, count + came);
            b.dueStation(9, 4 - came);
            b.due(20, 4, 12, 4);
            if (came > 0) {
                Harness.due(20, "the first of them", b.h.call().queued(2, count, 14), 0);
                Harness.due(20, "the last of them", b.h.call().queued(2, count + came - 1, 14), 2 * (came - 1));
            }
        }
    }

    /** "If t is not VR, and REJECTS is off: REJ as RESPONSE is SAID, REJECTS on." */
    private static void rejectOnce() {
        Bench b = upBench();
        for (int t = 1; t <= 7; t++) {
            b.hearCommand(4, information(t, 0, 1));
            b.due(20, 4, 7, 1);
            b.dueStation(1, 1);
        }
        b.dueLast(20, 1, Harness.response(2, 4, REJ, MARK));
        b.hearCommand(4, information(0, 0, 1));
        b.due(20, 4, 7, 0);
        b.dueStation(1, 2);
        b.hearCommand(4, information(0, 0, 1));
        b.dueLast(20, 3, Harness.response(2, 4, REJ + 32, MARK));
    }

    /** "if there is a VIA that is not REPEATED: if the first such is s, ..; else nothing" */
    private static void repeatedByTheFirst() {
        // Station numbers of both VIAS, and 128 if REPEATED; which of them station 2 is to repeat, 0 for none.
        int[][] due = {{2, 0, 1, 0, 1}, {1, 0, 2, 0, 0}, {1, 128, 2, 0, 2}, {2, 128, 1, 0, 0}, {1, 0, 2, 128, 0},
            {2, 0, 1, 128, 1}, {2, 128, 1, 128, 0}, {1, 128, 2, 128, 0}};
        for (int[] d : due) {
            Bench b = new Bench(2);
            int[] frame = Harness.join(Harness.stationAddress(3, 128), Harness.stationAddress(4, 0),
                    Harness.stationAddress(d[0], d[1]), Harness.stationAddress(d[2], d[3] + 1), Harness.bytes(DISC, 9));
            b.hear(frame);
            b.dueStation(1, d[4] == 0 ? 0 : 1);
            b.dueStation(8, 0);
            if (d[4] != 0) {
                frame[6 + 7 * (d[4] + 1)] += 128;
                b.dueLast(20, 1, frame);
            }
        }
        // It is to s, but not yet REPEATED by all: nothing.
        for (int repeated = 0; repeated < 2; repeated++) {
            Bench b = new Bench(2);
            b.hear(Harness.join(Harness.stationAddress(2, 128), Harness.stationAddress(4, 0),
                    Harness.stationAddress(1, 128), Harness.stationAddress(3, 1 + 128 * repeated), Harness.bytes(DISC, 9)));
            b.dueStation(1, repeated);
        }
    }

    /** "ANSWERED: SAID by the VIAS of the FRAME that was TAKEN, the last one first, with its MARK." */
    private static void answersByNoneToTwoVias() {
        int[][] vias = {{}, {3}, {3, 1}, {0, 5}};
        for (int[] v : vias) {
            Bench b = new Bench(2);
            int[] frame = Harness.frame(4, 2, true, v, SABM + POLL, 129);
            int[] back = new int[v.length];
            for (int i = 0; i < v.length; i++) {
                frame[20 + 7 * i] += 128;
                back[v.length - 1 - i] = v[i];
            }
            b.hear(frame);
            b.dueLast(20, 1, Harness.frame(2, 4, false, back, UA + POLL, 129));
            b.due(20, 4, 14, v.length > 0 ? back[0] : -1);
            b.due(20, 4, 15, v.length > 1 ? back[1] : -1);
        }
    }
}
