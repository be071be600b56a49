/** Promises 14, 15, 16, 21 and 22: ROUTES, BEACONS and letters. */
public final class RoutesTest {
    private static final int POLL = Harness.POLL;

    public static void main(String[] args) {
        refused();
        beaconFrames();
        learning();
        bestOnes();
        growingOld();
        beaconsInTime();
        lettersToOneself();
        lettersRefused();
        lettersAreNumbered();
        lettersLost();
        letterCalls();
        packetsAtMost();
        packetsAheadOfTheOutbox();
        packetsStayWhenCleared();
        packetGoesOn();
        fromEndToEnd();
        Harness.finish();
    }

    private static void dueRoute(Harness h, int s, int d, int n, int quality, int age) {
        Harness.due(21, "route(" + s + ", " + d + ", " + n + ", 0)", h.call().route(s, d, n, 0), quality);
        Harness.due(21, "route(" + s + ", " + d + ", " + n + ", 1)", h.call().route(s, d, n, 1), age);
    }

    private static void dueBest(Harness h, int s, int d, int want) {
        Harness.due(22, "best(" + s + ", " + d + ")", h.call().best(s, d), want);
    }

    private static void refused() {
        Harness h = new Harness();
        int low = Integer.MIN_VALUE;
        int high = Integer.MAX_VALUE;
        int[][] none = {{-1, 0, 1, 0}, {6, 0, 1, 0}, {0, -1, 1, 0}, {0, 6, 1, 0}, {0, 1, -1, 0}, {0, 1, 6, 0},
            {0, 0, 1, 0}, {0, 1, 0, 0}, {0, 1, 1, -1}, {0, 1, 1, 2}, {low, low, low, low}, {high, 1, 1, 0}, {0, high, 1, 0}};
        for (int[] n : none) {
            Harness.due(21, "route(" + n[0] + ", " + n[1] + ", " + n[2] + ", " + n[3] + ")",
                    h.call().route(n[0], n[1], n[2], n[3]), -1);
        }
        int[][] noBest = {{-1, 0}, {6, 0}, {0, -1}, {0, 6}, {0, 0}, {0, 1}, {low, high}, {high, low}};
        for (int[] n : noBest) {
            dueBest(h, n[0], n[1], -1);
        }
        for (int s : new int[] {-1, 6, low, high}) {
            Harness.due(16, "beacon(" + s + ")", h.call().beacon(s), -1);
            Harness.due(15, "take(" + s + ")", h.call().take(s), -1);
        }
        dueRoute(h, 0, 1, 1, 0, 0);
        dueRoute(h, 0, 1, 2, 0, 0);
    }

    private static void beaconFrames() {
        Bench b = new Bench(2);
        Harness.due(16, "beacon(2)", b.h.call().beacon(2), 0);
        b.dueLast(16, 1, Harness.nodes(2));
        b.hear(Harness.nodes(4, 0, 3, 255, 5, 5, 100, 1, 1, 10));
        // 255, 100 and 10 by 192: 191, 75, 8, and 8 is no BEST.
        Harness.due(16, "beacon(2)", b.h.call().beacon(2), 3);
        b.dueLast(16, 2, Harness.nodes(2, 0, 4, 191, 4, 4, 192, 5, 4, 75));
        dueRoute(b.h, 2, 1, 4, 8, 4);
    }

    private static void learning() {
        Bench b = new Bench(2);
        b.h.call().tune(2, 5, 100);
        b.hear(Harness.nodes(4, 0, 2, 255, 2, 1, 255, 1, 3, 129, 3, 3, 1, 5, 0, 2));
        dueRoute(b.h, 2, 4, 4, 100, 5);
        dueRoute(b.h, 2, 0, 4, 0, 0);
        // (129 * 100 + 128) / 256 is 50.8.., (1 * 100 + 128) / 256 is below 1, (2 * 100 + 128) / 256 is 1.
        dueRoute(b.h, 2, 1, 4, 50, 5);
        dueRoute(b.h, 2, 3, 4, 0, 0);
        dueRoute(b.h, 2, 5, 4, 1, 5);
        dueRoute(b.h, 2, 4, 1, 0, 0);
        // What is told later is true; what is not told stays.
        b.h.call().tune(2, 5, 255);
        b.hear(Harness.nodes(4, 1, 2, 200, 5, 0, 255));
        dueRoute(b.h, 2, 4, 4, 255, 5);
        dueRoute(b.h, 2, 1, 4, 0, 0);
        dueRoute(b.h, 2, 5, 4, 254, 5);
        // Its own way to itself may be told, too, and one d twice: the last one is it.
        b.hear(Harness.nodes(4, 4, 0, 128, 5, 0, 1, 5, 0, 64));
        dueRoute(b.h, 2, 4, 4, 128, 5);
        dueRoute(b.h, 2, 5, 4, 64, 5);
        b.h.call().tune(2, 5, 1);
        b.hear(Harness.nodes(3, 0, 1, 127, 1, 1, 128));
        dueRoute(b.h, 2, 0, 3, 0, 0);
        dueRoute(b.h, 2, 1, 3, 1, 5);
        // From s itself: nothing.
        b.hear(Harness.nodes(2, 4, 4, 7));
        dueRoute(b.h, 2, 4, 4, 128, 5);
        b.dueStation(8, 0);
        b.dueStation(1, 0);
    }

    private static void bestOnes() {
        Bench b = new Bench(2);
        b.h.call().tune(2, 5, 255);
        b.hear(Harness.nodes(4, 0, 3, 100));
        dueBest(b.h, 2, 0, 4);
        b.hear(Harness.nodes(3, 0, 3, 100));
        dueBest(b.h, 2, 0, 3);
        b.hear(Harness.nodes(1, 0, 3, 99));
        dueBest(b.h, 2, 0, 3);
        b.hear(Harness.nodes(5, 0, 3, 101));
        dueBest(b.h, 2, 0, 5);
        dueBest(b.h, 2, 5, 5);
        b.hear(Harness.nodes(5, 0, 3, 10, 5, 1, 9));
        dueBest(b.h, 2, 0, 3);
        dueBest(b.h, 2, 5, -1);
        b.hear(Harness.nodes(5, 5, 1, 10));
        dueBest(b.h, 2, 5, 5);
        b.h.call().tune(2, 5, 9);
        b.hear(Harness.nodes(5));
        dueRoute(b.h, 2, 5, 5, 9, 5);
        dueBest(b.h, 2, 5, -1);
        dueBest(b.h, 2, 2, -1);
    }

    private static void growingOld() {
        Bench b = new Bench(2);
        b.hear(Harness.nodes(4, 0, 3, 100));
        b.hear(Harness.nodes(3, 0, 3, 1));
        for (int i = 1; i <= 4; i++) {
            Harness.due(16, "beacon(2) " + i, b.h.call().beacon(2), 3);
            dueRoute(b.h, 2, 4, 4, 192, 5 - i);
            dueRoute(b.h, 2, 0, 3, 1, 5 - i);
        }
        b.hear(Harness.nodes(3));
        Harness.due(16, "beacon(2) 5", b.h.call().beacon(2), 1);
        b.dueLast(16, 5, Harness.nodes(2, 3, 3, 192));
        dueRoute(b.h, 2, 4, 4, 0, 0);
        dueRoute(b.h, 2, 0, 4, 0, 0);
        dueRoute(b.h, 2, 0, 3, 0, 0);
        dueRoute(b.h, 2, 3, 3, 192, 4);
        dueBest(b.h, 2, 4, -1);
        // A BEACON of another station is nothing to these.
        b.h.call().tune(3, 0, 0);
        b.h.call().beacon(3);
        dueRoute(b.h, 2, 3, 3, 192, 4);
        // Told anew they are young again.
        b.hear(Harness.nodes(4, 0, 3, 100));
        dueRoute(b.h, 2, 0, 4, 75, 5);
        // With a QUEUE that is full the FRAME is LOST, but they grow old, and it tells how many there are.
        for (int i = 0; i < 7; i++) {
            b.h.tape(Harness.command(0, 1, 99, 7));
            b.h.call().raw(2);
        }
        Harness.due(16, "a BEACON that is LOST", b.h.call().beacon(2), 3);
        b.dueStation(9, 1);
        dueRoute(b.h, 2, 0, 4, 75, 4);
    }

    private static void beaconsInTime() {
        Harness h = new Harness();
        h.call().tune(3, 0, 0);
        h.call().tune(3, 6, 250);
        h.run(249);
        Harness.due(8, "FRAMES ahead of EVERY", h.station(3, 1), 0);
        h.run(1);
        Harness.due(8, "FRAMES at EVERY", h.station(3, 1), 1);
        Harness.dueRow(8, "the BEACON", h.queued(3, 0), Harness.nodes(3));
        h.run(249);
        Harness.due(8, "FRAMES ahead of twice EVERY", h.station(3, 1), 1);
        h.call().tune(3, 6, 500);
        h.run(1);
        Harness.due(8, "FRAMES at a multiple of TIME", h.station(3, 1), 2);
        h.run(250);
        Harness.due(8, "FRAMES between", h.station(3, 1), 2);
        h.call().tune(3, 6, 0);
        h.run(1000);
        Harness.due(8, "FRAMES without EVERY", h.station(3, 1), 2);
        Harness.due(8, "FRAMES of others", h.station(2, 1), 0);
    }

    private static void letter(Harness h, int s, int d, int want, int... text) {
        h.tape(text);
        Harness.due(14, "letter(" + s + ", " + d + ")", h.call().letter(s, d), want);
    }

    private static void lettersToOneself() {
        Harness h = new Harness();
        letter(h, 3, 3, 0, 1);
        letter(h, 3, 3, 1, 1, 2, 3, 4, 5, 6, 7, 8, 9, 10, 11, 12);
        for (int i = 2; i < 8; i++) {
            letter(h, 3, 3, i, i);
        }
        Harness.due(19, "LETTERS in the MAILBOX", h.station(3, 10), 8);
        Harness.due(19, "LOST", h.station(3, 9), 0);
        letter(h, 3, 3, 8, 99);
        Harness.due(19, "LETTERS in the MAILBOX", h.station(3, 10), 8);
        Harness.due(19, "LOST", h.station(3, 9), 1);
        Harness.due(15, "take(3)", h.call().take(3), 768);
        Harness.dueRow(15, "its text", h.out(), Harness.bytes(1));
        letter(h, 3, 3, 9, 9, 9);
        Harness.due(15, "take(3)", h.call().take(3), 769);
        Harness.dueRow(15, "its text", h.out(), Harness.bytes(1, 2, 3, 4, 5, 6, 7, 8, 9, 10, 11, 12));
        for (int i = 2; i < 8; i++) {
            Harness.due(15, "take(3)", h.call().take(3), 768 + i);
        }
        Harness.due(15, "take(3)", h.call().take(3), 768 + 9);
        Harness.dueRow(15, "its text", h.out(), Harness.bytes(9, 9));
        Harness.due(15, "take(3) without one", h.call().take(3), -1);
        Harness.due(15, "the OUT stays", h.call().out(0), 9);
        Harness.due(15, "take(2)", h.call().take(2), -1);
    }

    private static void lettersRefused() {
        Harness h = new Harness();
        int[][] wrong = {{-1, 0}, {6, 0}, {0, -1}, {0, 6}, {Integer.MIN_VALUE, 0}, {0, Integer.MAX_VALUE}};
        for (int[] w : wrong) {
            letter(h, w[0], w[1], -1, 1, 2, 3);
        }
        letter(h, 0, 0, -1);
        letter(h, 0, 0, -1, new int[13]);
        letter(h, 0, 1, -1, new int[200]);
        Harness.due(14, "LETTERS", h.station(0, 10), 0);
        Harness.due(14, "LOST", h.station(0, 9), 0);
        letter(h, 0, 0, 0, 5);
    }

    private static void lettersAreNumbered() {
        Harness h = new Harness();
        for (int i = 0; i < 130; i++) {
            letter(h, 4, i % 2 == 0 ? 4 : 1, i, 5);
        }
        letter(h, 1, 1, 0, 5);
        Harness.due(14, "LOST", h.station(4, 9), 130 - 8);
    }

    private static void lettersLost() {
        Bench b = new Bench(2);
        letter(b.h, 2, 4, 0, 1);
        b.dueStation(9, 1);
        b.due(14, 4, 0, 0);
        b.up(4);
        // A LINK that is UP is no ROUTE.
        letter(b.h, 2, 4, 1, 1);
        b.dueStation(9, 2);
        // LIFE 0 on the way, though there is a ROUTE; to s itself LIFE is nothing.
        b.hear(Harness.nodes(0));
        b.hearCommand(4, 0, 129, 207, 4, 0, 0, 1, 65);
        b.dueStation(9, 3);
        b.due(14, 0, 0, 0);
        b.hearCommand(4, 2, 129, 207, 4, 2, 0, 1, 65);
        b.dueStation(10, 1);
        b.dueStation(9, 3);
    }

    private static void letterCalls() {
        Bench b = new Bench(2);
        b.h.call().tune(2, 4, 1000);
        // VIAS of an earlier call are forgotten.
        b.h.call().call(2, 4, 1, 3);
        b.hearResponse(4, Harness.DM, 1);
        b.due(14, 4, 14, 1);
        b.hear(Harness.nodes(4, 0, 1, 200));
        letter(b.h, 2, 0, 0, 65, 66);
        b.dueLink(14, 4, 1, 0, 0, 0, 1000, 1, 0, 0, 0, 0, 0, 1, 0, 2, -1, -1);
        b.dueLast(14, 2, Harness.command(2, 4, Harness.SABM + POLL, 2));
        b.due(14, 0, 0, 0);
        // A second one finds it CALLING.
        letter(b.h, 2, 4, 1, 67);
        b.due(14, 4, 11, 2);
        b.dueStation(1, 2);
        b.hearResponse(4, Harness.UA + POLL, 2);
        b.dueLast(14, 3, Harness.command(2, 4, 0, 2, 207, 2, 0, 7, 0, 65, 66));
        b.h.run(1);
        b.dueLast(14, 4, Harness.command(2, 4, 2, 2, 207, 2, 4, 7, 1, 67));
        b.dueLink(14, 4, 2, 2, 0, 0, 999, 0, 0, 0, 0, 0, 0, 0, 2);
        // Said again as it was.
        b.hearResponse(4, Harness.REJ + 32, 2);
        b.dueLast(14, 5, Harness.command(2, 4, 2, 2, 207, 2, 4, 7, 1, 67));
    }

    private static void packetsAtMost() {
        Bench b = new Bench(2);
        b.hear(Harness.nodes(4));
        for (int i = 0; i < 6; i++) {
            letter(b.h, 2, 4, i, i);
        }
        b.due(14, 4, 11, 6);
        b.dueStation(9, 0);
        letter(b.h, 2, 4, 6, 6);
        b.due(14, 4, 11, 6);
        b.dueStation(9, 1);
        // DOWN: they are gone, and not among the LOST.
        b.hearResponse(4, Harness.DM, 1);
        b.due(14, 4, 11, 0);
        b.dueStation(9, 1);
        // While it is LEAVING they come to it still.
        b.h.call().call(2, 4, -1, -1);
        b.h.call().leave(2, 4);
        letter(b.h, 2, 4, 7, 7);
        b.due(14, 4, 11, 1);
        b.due(14, 4, 0, 3);
    }

    private static void packetsAheadOfTheOutbox() {
        Bench b = new Bench(2);
        b.hear(Harness.nodes(4));
        b.up(4);
        b.h.tape(1, 2, 3);
        b.h.call().give(2, 4);
        letter(b.h, 2, 4, 0, 65);
        b.h.run(1);
        b.dueLast(14, 2, Harness.command(2, 4, 0, 129, 207, 2, 4, 7, 0, 65));
        b.h.run(1);
        b.dueLast(14, 3, Harness.command(2, 4, 2, 129, 240, 1, 2, 3));
    }

    private static void packetsStayWhenCleared() {
        Bench b = new Bench(4);
        b.hear(Harness.nodes(1));
        letter(b.h, 4, 1, 0, 65);
        letter(b.h, 4, 1, 1, 66);
        b.due(14, 1, 0, 1);
        b.hearCommand(1, Harness.SABM, 1);
        // UP by the other's SABM: what waits is said at once.
        b.dueLink(14, 1, 2, 1, 0, 0, 1500, 0, 0, 0, 0, 0, 0, 1, 1, 1);
        b.h.call().leave(4, 1);
        b.due(11, 1, 11, 1);
        b.due(11, 1, 0, 3);
    }

    private static void packetGoesOn() {
        Bench b = new Bench(2);
        b.hear(Harness.nodes(0));
        b.up(4);
        b.hearCommand(4, 0, 129, 207, 5, 0, 3, 200, 65, 66, 67);
        // The SABM comes to the QUEUE ahead of the RR.
        b.dueStation(1, 3);
        Harness.dueRow(14, "the call", b.h.queued(2, 1), Harness.command(2, 0, Harness.SABM + POLL, 129));
        Harness.dueRow(14, "the RR", b.h.queued(2, 2), Harness.response(2, 4, Harness.RR + 32, 129));
        b.hearResponse(0, Harness.UA, 129);
        b.dueLast(14, 4, Harness.command(2, 0, 0, 129, 207, 5, 0, 2, 200, 65, 66, 67));
        // Back to where it came from, if that is BEST.
        b.hear(Harness.nodes(4, 3, 1, 255));
        b.hearCommand(4, 2, 129, 207, 5, 3, 1, 201, 68);
        b.dueStation(1, 6);
        Harness.dueRow(14, "the RR", b.h.queued(2, 4), Harness.response(2, 4, Harness.RR + 32 * 2, 129));
        Harness.dueRow(14, "back", b.h.queued(2, 5), Harness.command(2, 4, 32 * 2, 129, 207, 5, 3, 0, 201, 68));
    }

    private static void fromEndToEnd() {
        Harness h = new Harness();
        for (int s = 0; s < 6; s++) {
            h.call().tune(s, 0, 256);
            for (int o = 0; o < 6; o++) {
                if (Math.abs(s - o) > 1) {
                    h.call().hears(s, o, false);
                }
            }
        }
        for (int s = 0; s < 4; s++) {
            Harness.due(16, "beacon(" + s + ")", h.call().beacon(s), s);
            h.run(500);
        }
        dueBest(h, 3, 0, 2);
        dueRoute(h, 3, 0, 2, 108, 4);
        letter(h, 3, 0, 0, 104, 105);
        for (int i = 0; i < 6; i++) {
            h.run(1000);
        }
        Harness.due(15, "take(0)", h.call().take(0), 768);
        Harness.dueRow(15, "the text", h.out(), Harness.bytes(104, 105));
        Harness.due(19, "LOST", h.station(1, 9) + h.station(2, 9) + h.station(3, 9), 0);
    }
}
