/** Promises 10 to 13, 20, and what the third part tells of FRAMES that are TAKEN. Station 2 is looked at. */
public final class LinksTest {
    private static final int DM = Harness.DM;
    private static final int UA = Harness.UA;
    private static final int SABM = Harness.SABM;
    private static final int DISC = Harness.DISC;
    private static final int RR = Harness.RR;
    private static final int RNR = Harness.RNR;
    private static final int REJ = Harness.REJ;
    private static final int POLL = Harness.POLL;

    public static void main(String[] args) {
        calls();
        callsRefused();
        callsAreCounted();
        linkRefused();
        leaves();
        leaveOfUp();
        gives();
        reads();
        calledBySabm();
        sabmOfWrongHalf();
        sabmOld();
        sabmAtTheHalves();
        callEmptiesTheInbox();
        sabmOfTheMark();
        sabmWhileCalling();
        sabmClears();
        foreignMark();
        whileCalling();
        whileLeaving();
        whileUp();
        answersByVias();
        informationComes();
        informationOutOfOrder();
        busy();
        packetsOfOneLink();
        wrongNumber();
        window();
        acknowledged();
        held();
        heldClock();
        rejected();
        polls();
        pollAnswers();
        triesEnd();
        queueOfEight();
        queueIsFull();
        repeats();
        bad();
        goodEdges();
        Harness.finish();
    }

    private static int[] text(int count, int from) {
        int[] row = new int[count];
        for (int i = 0; i < count; i++) {
            row[i] = from + i & 255;
        }
        return row;
    }

    private static void calls() {
        Bench b = new Bench(2);
        b.h.call().tune(2, 4, 777);
        Harness.due(10, "call(2, 4, -1, -1)", b.h.call().call(2, 4, -1, -1), true);
        b.dueLast(10, 1, Harness.command(2, 4, SABM + POLL, 1));
        b.dueLink(20, 4, 1, 0, 0, 0, 777, 1, 0, 0, 0, 0, 0, 0, 0, 1, -1, -1);
        Harness.due(10, "call(2, 0, 1, -1)", b.h.call().call(2, 0, 1, -1), true);
        b.dueLast(10, 2, Harness.frame(2, 0, true, Harness.bytes(1), SABM + POLL, 129));
        b.dueLink(20, 0, 1, 0, 0, 0, 777, 1, 0, 0, 0, 0, 0, 0, 0, 129, 1, -1);
        Harness.due(10, "call(2, 5, 3, 0)", b.h.call().call(2, 5, 3, 0), true);
        b.dueLast(10, 3, Harness.frame(2, 5, true, Harness.bytes(3, 0), SABM + POLL, 1));
        b.due(20, 5, 14, 3);
        b.due(20, 5, 15, 0);
        // A SABM for which there is no room is LOST; it is CALLED all the same.
        for (int i = 0; i < 9; i++) {
            b.h.tape(Harness.command(0, 1, 99, 7));
            b.h.call().raw(2);
        }
        Harness.due(10, "call(2, 1, -1, -1)", b.h.call().call(2, 1, -1, -1), true);
        b.dueStation(1, 12);
        b.dueStation(9, 1);
        b.due(20, 1, 0, 1);
    }

    private static void callsRefused() {
        Harness h = new Harness();
        int[][] wrong = {{0, 0, -1, -1}, {-1, 0, -1, -1}, {0, -1, -1, -1}, {6, 0, -1, -1}, {0, 6, -1, -1},
            {0, 2, 0, -1}, {0, 2, 2, -1}, {0, 2, 6, -1}, {0, 2, -2, -1}, {0, 2, 1, 1}, {0, 2, 1, 0}, {0, 2, 1, 2},
            {0, 2, 1, 6}, {0, 2, 1, -2}, {0, 2, -1, 1}, {0, 2, -1, 6}, {0, 2, -1, -2},
            {Integer.MIN_VALUE, Integer.MAX_VALUE, 1, 3}};
        for (int[] w : wrong) {
            Harness.due(10, "call(" + w[0] + ", " + w[1] + ", " + w[2] + ", " + w[3] + ")",
                    h.call().call(w[0], w[1], w[2], w[3]), false);
        }
        Harness.due(10, "FRAMES in the QUEUE", h.station(0, 1), 0);
        Harness.due(10, "MARK", h.link(0, 2, 13), 0);
        h.call().call(0, 2, 1, 3);
        Harness.due(10, "a second call", h.call().call(0, 2, -1, -1), false);
        Harness.due(10, "VIAS stay", h.link(0, 2, 14), 1);
        h.call().leave(0, 2);
        Harness.due(10, "a call while LEAVING", h.call().call(0, 2, -1, -1), false);
        // The other way round there is another LINK.
        Harness.due(10, "call(2, 0, -1, -1)", h.call().call(2, 0, -1, -1), true);
    }

    private static void callsAreCounted() {
        Harness h = new Harness();
        h.call().tune(3, 0, 0);
        h.call().tune(3, 4, 100);
        for (int i = 1; i <= 130; i++) {
            h.call().call(3, 1, -1, -1);
            Harness.due(10, "MARK of call " + i, h.link(3, 1, 13), 128 + i % 128);
            h.run(601);
        }
    }

    private static void linkRefused() {
        Harness h = new Harness();
        int[][] none = {{0, 0, 0}, {-1, 0, 0}, {0, -1, 0}, {6, 0, 0}, {0, 6, 0}, {0, 1, -1}, {0, 1, 16},
            {0, 1, Integer.MIN_VALUE}, {0, 1, Integer.MAX_VALUE}, {Integer.MAX_VALUE, 1, 0}};
        for (int[] n : none) {
            Harness.due(20, "link(" + n[0] + ", " + n[1] + ", " + n[2] + ")", h.link(n[0], n[1], n[2]), -1);
        }
    }

    private static void leaves() {
        Bench b = new Bench(2);
        int[][] wrong = {{2, 2}, {-1, 2}, {2, -1}, {6, 2}, {2, 6}, {2, 4}};
        for (int[] w : wrong) {
            Harness.due(11, "leave(" + w[0] + ", " + w[1] + ")", b.h.call().leave(w[0], w[1]), false);
        }
        b.h.call().call(2, 4, 1, 3);
        b.h.call().tune(2, 4, 900);
        b.h.run(10);
        Harness.due(11, "leave while CALLING", b.h.call().leave(2, 4), true);
        b.dueLast(11, 2, Harness.frame(2, 4, true, Harness.bytes(1, 3), DISC + POLL, 1));
        b.dueLink(11, 4, 3, 0, 0, 0, 900, 1, 0, 0, 0, 0, 0, 0, 0, 1, 1, 3);
        Harness.due(11, "leave while LEAVING", b.h.call().leave(2, 4), false);
        b.dueStation(1, 2);
    }

    private static void leaveOfUp() {
        Bench b = new Bench(2);
        b.h.call().tune(2, 4, 20000);
        b.up(4);
        b.hearCommand(4, 0, 129, 240, 7, 8, 9);
        b.h.tape(text(40, 1));
        b.h.call().give(2, 4);
        b.h.run(2);
        b.dueLink(11, 4, 2, 2, 0, 1, 19999, 0, 0, 0, 0, 8, 3, 0, 2, 129);
        Harness.due(11, "leave while UP", b.h.call().leave(2, 4), true);
        b.dueLink(11, 4, 3, 0, 0, 0, 20000, 1, 0, 0, 0, 0, 3, 0, 0, 129);
        b.dueLast(11, 5, Harness.command(2, 4, DISC + POLL, 129));
        b.hearResponse(4, UA + POLL, 129);
        b.dueLink(11, 4, 0, 0, 0, 0, 0, 0, 0, 0, 0, 0, 3, 0, 0, 129);
        Harness.due(13, "read of a LINK that is DOWN", b.h.call().read(2, 4, 64), 3);
        Harness.dueRow(13, "what was read", b.h.out(), Harness.bytes(7, 8, 9));
        b.dueStation(1, 5);
    }

    private static void gives() {
        Bench b = new Bench(2);
        int[][] wrong = {{2, 2}, {-1, 2}, {2, -1}, {6, 2}, {2, 6}};
        for (int[] w : wrong) {
            b.h.tape(text(5, 1));
            Harness.due(12, "give(" + w[0] + ", " + w[1] + ")", b.h.call().give(w[0], w[1]), -1);
        }
        b.h.tape(text(5, 1));
        Harness.due(12, "give while DOWN", b.h.call().give(2, 4), -3);
        b.h.call().call(2, 4, -1, -1);
        Harness.due(12, "give while CALLING", b.h.call().give(2, 4), -3);
        b.hearResponse(4, UA + POLL, 1);
        Harness.due(12, "give of nothing", b.h.call().give(2, 4), 0);
        b.h.tape(text(201, 1));
        Harness.due(12, "give of 201", b.h.call().give(2, 4), -2);
        b.due(12, 4, 9, 0);
        Harness.due(12, "the TAPE behind it", b.h.call().end(1), false);
        b.h.tape(text(200, 1));
        Harness.due(12, "give of 200", b.h.call().give(2, 4), 200);
        Harness.due(12, "give of nothing to 200", b.h.call().give(2, 4), 200);
        b.h.tape(text(1, 1));
        Harness.due(12, "give to 201", b.h.call().give(2, 4), -2);
        b.h.run(1);
        b.due(12, 4, 9, 184);
        b.h.tape(text(16, 201));
        Harness.due(12, "give to 200 again", b.h.call().give(2, 4), 200);
        b.h.tape(text(250, 1));
        Harness.due(12, "give of 250", b.h.call().give(2, 4), -2);
        b.h.call().leave(2, 4);
        b.h.tape(text(1, 1));
        Harness.due(12, "give while LEAVING", b.h.call().give(2, 4), -3);
    }

    private static void reads() {
        Bench b = new Bench(2);
        int[][] wrong = {{2, 2, 5}, {-1, 2, 5}, {2, -1, 5}, {6, 2, 5}, {2, 6, 5}, {2, 4, 0}, {2, 4, 65}, {2, 4, -1},
            {2, 4, Integer.MAX_VALUE}, {2, 4, Integer.MIN_VALUE}};
        b.up(4);
        b.hearCommand(4, Harness.join(Harness.bytes(0, 129, 240), text(16, 100)));
        b.hearCommand(4, Harness.join(Harness.bytes(2, 129, 240), text(2, 116)));
        Harness.due(13, "read(2, 4, 1)", b.h.call().read(2, 4, 1), 1);
        for (int[] w : wrong) {
            Harness.due(13, "read(" + w[0] + ", " + w[1] + ", " + w[2] + ")", b.h.call().read(w[0], w[1], w[2]), -1);
            Harness.due(13, "the OUT stays", b.h.call().out(0), 100);
        }
        Harness.due(13, "read(2, 4, 10)", b.h.call().read(2, 4, 10), 10);
        Harness.dueRow(13, "what was read", b.h.out(), text(10, 101));
        b.due(20, 4, 10, 7);
        Harness.due(13, "read(2, 4, 64)", b.h.call().read(2, 4, 64), 7);
        Harness.dueRow(13, "what was read", b.h.out(), text(7, 111));
        Harness.due(13, "read of nothing", b.h.call().read(2, 4, 64), 0);
        Harness.due(13, "the OUT is empty", b.h.call().out(0), -1);
        b.dueStation(1, 3);
    }

    private static void calledBySabm() {
        Bench b = new Bench(2);
        b.hearCommand(4, SABM + POLL, 129);
        b.dueLink(20, 4, 2, 0, 0, 0, 0, 0, 0, 0, 0, 0, 0, 0, 0, 129, -1, -1);
        b.dueLast(20, 1, Harness.response(2, 4, UA + POLL, 129));
        b.hearCommand(0, SABM, 1);
        b.dueLink(20, 0, 2, 0, 0, 0, 0, 0, 0, 0, 0, 0, 0, 0, 0, 1, -1, -1);
        b.dueLast(20, 2, Harness.response(2, 0, UA, 1));
        // To another station: nothing.
        b.hear(Harness.command(4, 3, SABM, 129));
        b.dueStation(1, 2);
        b.dueStation(6, 3);
        b.dueStation(8, 0);
    }

    private static void sabmOfWrongHalf() {
        Bench b = new Bench(2);
        b.hearCommand(4, SABM, 1);
        b.hearCommand(0, SABM, 129);
        b.hearCommand(4, SABM, 0);
        b.hearCommand(4, SABM, 127);
        b.hearCommand(0, SABM, 255);
        b.due(20, 4, 0, 0);
        b.due(20, 0, 0, 0);
        b.dueStation(1, 0);
    }

    private static void sabmOld() {
        Bench b = new Bench(2);
        b.hearCommand(4, SABM, 128 + 64);
        b.hearCommand(4, SABM, 128);
        b.hearCommand(4, SABM, 128 + 127);
        b.due(20, 4, 0, 0);
        b.dueStation(1, 0);
        b.hearCommand(4, SABM, 128 + 63);
        b.due(20, 4, 0, 2);
        b.due(20, 4, 13, 191);
        b.hearCommand(4, SABM, 128 + 62);
        b.hearCommand(4, SABM, 128 + 127);
        b.due(20, 4, 13, 191);
        b.hearCommand(4, SABM, 128 + 126);
        b.due(20, 4, 13, 254);
        // 61 on from 126, modulo 128.
        b.hearCommand(4, SABM, 128 + 59);
        b.due(20, 4, 13, 187);
        b.dueStation(1, 3);
    }

    /** 127 and 128 are in different halves. */
    private static void sabmAtTheHalves() {
        Bench b = new Bench(2);
        for (int n : new int[] {63, 126, 127, 0, 1}) {
            b.hearCommand(4, SABM, 128 + n);
            b.due(20, 4, 13, 128 + n);
            b.hearCommand(0, SABM, n);
            b.due(20, 0, 13, n);
        }
        b.hearCommand(4, SABM, 2);
        b.hearCommand(0, SABM, 130);
        b.due(20, 4, 13, 129);
        b.due(20, 0, 13, 1);
        b.dueStation(1, 10);
    }

    private static void callEmptiesTheInbox() {
        Bench b = new Bench(2);
        b.up(4);
        b.hearCommand(4, 0, 129, 240, 1, 2);
        b.hearCommand(4, DISC, 129);
        b.due(10, 4, 10, 2);
        b.h.call().call(2, 4, -1, -1);
        b.due(10, 4, 10, 0);
        b.due(10, 4, 13, 1);
    }

    private static void sabmOfTheMark() {
        Bench b = new Bench(2);
        b.up(4);
        b.hearCommand(4, 0, 129, 240, 5);
        b.hearCommand(4, SABM + POLL, 129);
        b.dueLast(20, 3, Harness.response(2, 4, UA + POLL, 129));
        b.due(20, 4, 10, 1);
        b.due(20, 4, 3, 1);
        b.hearCommand(4, DISC, 129);
        b.hearCommand(4, SABM + POLL, 129);
        b.dueLast(20, 5, Harness.response(2, 4, DM + POLL, 129));
        b.due(20, 4, 0, 0);
        // The MARK is 0 at first, and that is a MARK of a station below.
        b.hearCommand(0, SABM, 0);
        b.dueLast(20, 6, Harness.response(2, 0, DM, 0));
    }

    private static void sabmWhileCalling() {
        Bench b = new Bench(2);
        b.h.call().call(2, 4, 1, 3);
        b.h.call().call(2, 0, 1, 3);
        b.hearCommand(4, SABM + POLL, 129);
        b.due(20, 4, 0, 1);
        b.due(20, 4, 13, 1);
        b.due(20, 4, 14, 1);
        b.dueLast(20, 3, Harness.response(2, 4, DM + POLL, 129));
        // It has been SEEN all the same.
        b.hearCommand(4, SABM + POLL, 129);
        b.dueStation(1, 3);
        b.hearCommand(0, SABM + POLL, 1);
        b.dueLink(20, 0, 2, 0, 0, 0, 0, 0, 0, 0, 0, 0, 0, 0, 0, 1, -1, -1);
        b.dueLast(20, 4, Harness.response(2, 0, UA + POLL, 1));
        // LEAVING is no reason to refuse.
        b.h.call().leave(2, 4);
        b.hearCommand(4, SABM, 130);
        b.due(20, 4, 0, 2);
        b.due(20, 4, 13, 130);
    }

    private static void sabmClears() {
        Bench b = new Bench(2);
        b.h.call().tune(2, 4, 20000);
        b.up(4);
        b.hearCommand(4, 0, 129, 240, 5, 6);
        b.hearCommand(4, 6, 129, 240, 5, 6);
        b.hearCommand(4, RNR, 129);
        b.h.tape(text(40, 1));
        b.h.call().give(2, 4);
        b.h.run(1);
        b.dueLink(20, 4, 2, 0, 0, 1, 20000, 0, 0, 1, 1, 40, 2, 0, 0, 129);
        b.hear(Harness.join(Harness.stationAddress(2, 128), Harness.stationAddress(4, 0),
                Harness.stationAddress(3, 128), Harness.stationAddress(1, 129), Harness.bytes(SABM, 131)));
        b.dueLink(20, 4, 2, 0, 0, 0, 0, 0, 0, 0, 0, 0, 0, 0, 0, 131, 1, 3);
        b.dueLast(20, 4, Harness.frame(2, 4, false, Harness.bytes(1, 3), UA, 131));
    }

    private static void foreignMark() {
        Bench b = new Bench(2);
        b.hearCommand(4, RR + POLL, 9);
        b.dueLast(20, 1, Harness.response(2, 4, DM + POLL, 9));
        b.hearCommand(4, DISC, 0);
        b.dueLast(20, 2, Harness.response(2, 4, DM, 0));
        b.hearResponse(4, RR + POLL, 0);
        b.hearResponse(4, UA, 0);
        b.dueStation(1, 2);
        b.up(4);
        b.hearCommand(4, 16, 130, 240, 1);
        b.dueLast(20, 4, Harness.response(2, 4, DM + POLL, 130));
        b.hearCommand(4, DISC + POLL, 1);
        b.dueLast(20, 5, Harness.response(2, 4, DM + POLL, 1));
        b.hearResponse(4, DM, 130);
        b.hearResponse(4, REJ, 1);
        b.dueStation(1, 5);
        b.due(20, 4, 0, 2);
        b.due(20, 4, 10, 0);
    }

    private static void whileCalling() {
        Bench b = new Bench(2);
        b.h.call().tune(2, 4, 20000);
        b.h.call().call(2, 4, -1, -1);
        b.hearCommand(4, RR + POLL, 1);
        b.hearCommand(4, DISC + POLL, 1);
        b.hearCommand(4, 0, 1, 240, 1);
        b.hearResponse(4, REJ, 1);
        b.due(20, 4, 0, 1);
        b.dueStation(1, 1);
        b.hearResponse(4, UA, 1);
        b.dueLink(20, 4, 2, 0, 0, 0, 0, 0, 0, 0, 0, 0, 0, 0, 0, 1);
        b.dueStation(1, 1);
        b.h.call().call(2, 0, -1, -1);
        b.hearResponse(0, DM + POLL, 129);
        b.dueLink(20, 0, 0, 0, 0, 0, 0, 0, 0, 0, 0, 0, 0, 0, 0, 129);
        b.dueStation(1, 2);
    }

    private static void whileLeaving() {
        for (int kind : new int[] {UA, DM}) {
            Bench b = new Bench(2);
            b.h.call().call(2, 4, -1, -1);
            b.h.call().leave(2, 4);
            b.hearCommand(4, RR + POLL, 1);
            b.hearCommand(4, 0, 1, 207, 1);
            b.hearResponse(4, RNR + POLL, 1);
            b.dueStation(1, 2);
            b.due(11, 4, 0, 3);
            b.hearCommand(4, DISC + POLL, 1);
            b.dueLast(11, 3, Harness.response(2, 4, UA + POLL, 1));
            b.hearCommand(4, DISC, 1);
            b.dueLast(11, 4, Harness.response(2, 4, UA, 1));
            b.due(11, 4, 0, 3);
            b.hearResponse(4, kind, 1);
            b.dueLink(11, 4, 0, 0, 0, 0, 0, 0, 0, 0, 0, 0, 0, 0, 0, 1);
            b.dueStation(1, 4);
        }
    }

    private static void whileUp() {
        Bench b = new Bench(2);
        b.up(4);
        b.hearResponse(4, UA + POLL, 129);
        b.due(20, 4, 0, 2);
        b.dueStation(1, 1);
        b.hearCommand(4, 0, 129, 240, 1);
        b.hearCommand(4, DISC + POLL, 129);
        b.dueLast(20, 3, Harness.response(2, 4, UA + POLL, 129));
        b.dueLink(20, 4, 0, 0, 0, 0, 0, 0, 0, 0, 0, 0, 1, 0, 0, 129);
        b.up(0);
        b.hearResponse(0, DM, 1);
        b.due(20, 0, 0, 0);
        b.dueStation(1, 4);
    }

    private static void answersByVias() {
        Bench b = new Bench(2);
        int[] to = Harness.stationAddress(2, 128);
        int[] from = Harness.stationAddress(4, 0);
        b.hear(Harness.join(to, from, Harness.stationAddress(3, 128), Harness.stationAddress(1, 129),
                Harness.bytes(SABM + POLL, 129)));
        b.due(20, 4, 14, 1);
        b.due(20, 4, 15, 3);
        b.dueLast(20, 1, Harness.frame(2, 4, false, Harness.bytes(1, 3), UA + POLL, 129));
        // An ANSWER goes by the VIAS of its FRAME, what is SAID by those of the LINK.
        b.hear(Harness.join(to, from, Harness.stationAddress(0, 129), Harness.bytes(RR + POLL, 77)));
        b.dueLast(20, 2, Harness.frame(2, 4, false, Harness.bytes(0), DM + POLL, 77));
        b.hearCommand(4, RR + POLL, 129);
        b.dueLast(20, 3, Harness.frame(2, 4, false, Harness.bytes(1, 3), RR + POLL, 129));
    }

    private static void informationComes() {
        Bench b = new Bench(2);
        b.up(4);
        for (int i = 0; i < 9; i++) {
            int p = i % 2 == 0 ? 0 : POLL;
            b.hearCommand(4, 2 * (i % 8) + p, 129, 240, 50 + i);
            b.dueLast(20, i + 2, Harness.response(2, 4, RR + p + 32 * ((i + 1) % 8), 129));
            b.due(20, 4, 3, (i + 1) % 8);
        }
        b.due(20, 4, 10, 9);
        b.h.call().read(2, 4, 64);
        Harness.dueRow(13, "the INBOX", b.h.out(), text(9, 50));
    }

    private static void informationOutOfOrder() {
        Bench b = new Bench(2);
        b.up(4);
        b.hearCommand(4, 2 * 7 + POLL, 129, 240, 1);
        b.dueLast(20, 2, Harness.response(2, 4, REJ + POLL, 129));
        b.due(20, 4, 7, 1);
        b.hearCommand(4, 2 * 3, 129, 240, 1);
        b.dueStation(1, 2);
        b.due(20, 4, 10, 0);
        b.hearCommand(4, 0, 129, 240, 1);
        b.due(20, 4, 7, 0);
        b.due(20, 4, 3, 1);
        b.hearCommand(4, 2 * 2, 129, 240, 1);
        b.dueLast(20, 4, Harness.response(2, 4, REJ + 32, 129));
        b.due(20, 4, 7, 1);
        b.due(20, 4, 10, 1);
    }

    private static void busy() {
        Bench b = new Bench(2);
        b.h.call().tune(2, 4, 20000);
        b.up(4);
        for (int i = 0; i < 3; i++) {
            b.hearCommand(4, Harness.join(Harness.bytes(2 * i, 129, 240), text(16, 16 * i)));
        }
        b.dueLast(20, 4, Harness.response(2, 4, RR + 32 * 3, 129));
        b.hearCommand(4, 2 * 3 + POLL, 129, 240, 48);
        b.dueLast(20, 5, Harness.response(2, 4, RNR + POLL + 32 * 4, 129));
        b.due(20, 4, 10, 49);
        b.hearCommand(4, 2 * 4, 129, 240, 99);
        b.dueLast(20, 6, Harness.response(2, 4, RNR + 32 * 4, 129));
        b.due(20, 4, 3, 4);
        b.due(20, 4, 10, 49);
        b.hearCommand(4, RR + POLL, 129);
        b.dueLast(20, 7, Harness.response(2, 4, RNR + POLL + 32 * 4, 129));
        // BUSY does not keep a REJ back.
        b.hearCommand(4, 2 * 6, 129, 240, 99);
        b.dueLast(20, 8, Harness.response(2, 4, REJ + 32 * 4, 129));
        Harness.due(13, "read(2, 4, 1)", b.h.call().read(2, 4, 1), 1);
        b.dueLast(13, 9, Harness.response(2, 4, RR + 32 * 4, 129));
        Harness.due(13, "read(2, 4, 1) again", b.h.call().read(2, 4, 1), 1);
        b.dueStation(1, 9);
        b.hearCommand(4, Harness.join(Harness.bytes(2 * 4, 129, 240), text(16, 16)));
        b.due(20, 4, 10, 63);
        Harness.due(13, "a read that leaves it BUSY", b.h.call().read(2, 4, 14), 14);
        b.dueStation(1, 10);
        b.hearCommand(4, DISC, 129);
        Harness.due(13, "a read of a LINK that is DOWN", b.h.call().read(2, 4, 20), 20);
        b.dueStation(1, 11);
    }

    private static void packetsOfOneLink() {
        Bench b = new Bench(2);
        b.up(4);
        b.hearCommand(4, 0, 129, 207, 4, 2, 0, 77, 65, 66);
        b.dueLast(15, 2, Harness.response(2, 4, RR + 32, 129));
        b.dueStation(10, 1);
        b.due(20, 4, 10, 0);
        int[][] wrong = {{4, 2, 0, 77}, {4}, {6, 2, 0, 77, 65}, {4, 6, 0, 77, 65}, {255, 2, 0, 1, 65},
            {4, 2, 1, 1, 1, 1, 1, 1, 1, 1, 1, 1, 1, 1, 1, 1, 1}};
        for (int i = 0; i < 5; i++) {
            b.hearCommand(4, Harness.join(Harness.bytes(2 * (i + 1), 129, 207), wrong[i]));
            b.due(20, 4, 3, i + 2);
            b.dueStation(8, i + 1);
        }
        // 17 BYTES are no I at all.
        b.hearCommand(4, Harness.join(Harness.bytes(2 * 6, 129, 207), wrong[5]));
        b.due(20, 4, 3, 6);
        b.dueStation(8, 6);
        b.dueStation(9, 0);
        b.dueStation(10, 1);
        Harness.due(15, "take(2)", b.h.call().take(2), 256 * 4 + 77);
        Harness.dueRow(15, "its text", b.h.out(), Harness.bytes(65, 66));
    }

    private static void wrongNumber() {
        for (int r = 1; r < 8; r++) {
            Bench b = new Bench(2);
            b.up(4);
            b.h.tape(text(32, 1));
            b.h.call().give(2, 4);
            b.h.run(2);
            b.hearCommand(4, RR + POLL + 32 * r, 129);
            b.due(20, 4, 0, r > 2 ? 0 : 2);
            b.dueLast(20, 4, Harness.response(2, 4, r > 2 ? DM : RR + POLL, 129));
        }
        // With VA 3 and VS 4: 3 and 4 can be.
        for (int r = 0; r < 8; r++) {
            Bench b = new Bench(2);
            b.up(4);
            b.h.tape(text(64, 1));
            b.h.call().give(2, 4);
            b.h.run(4);
            b.hearCommand(4, RR + 32 * 3, 129);
            b.hearCommand(4, RR + 32 * r, 129);
            boolean fits = r == 3 || r == 4;
            b.dueLink(20, 4, fits ? 2 : 0, fits ? 4 : 0, fits ? r : 0);
        }
        Bench b = new Bench(2);
        b.up(4);
        b.hearCommand(4, 32, 129, 240, 1);
        b.dueLast(20, 2, Harness.response(2, 4, DM, 129));
        b.dueLink(20, 4, 0, 0, 0, 0, 0, 0, 0, 0, 0, 0, 0, 0, 0, 129);
    }

    private static void window() {
        Bench b = new Bench(2);
        b.h.call().tune(2, 4, 5000);
        b.up(4);
        b.hearCommand(4, 0, 129, 240, 1);
        b.h.tape(text(100, 1));
        b.h.call().give(2, 4);
        b.h.run(1);
        b.dueLink(20, 4, 2, 1, 0, 1, 5000, 0, 0, 0, 0, 84, 1, 0, 1);
        b.dueLast(20, 3, Harness.command(2, 4, Harness.join(Harness.bytes(32, 129, 240), text(16, 1))));
        b.h.run(1);
        b.dueLink(20, 4, 2, 2, 0, 1, 4999, 0, 0, 0, 0, 68, 1, 0, 2);
        b.dueLast(20, 4, Harness.command(2, 4, Harness.join(Harness.bytes(2 + 32, 129, 240), text(16, 17))));
        b.h.run(10);
        b.dueLink(20, 4, 2, 4, 0, 1, 4989, 0, 0, 0, 0, 36, 1, 0, 4);
        b.dueStation(1, 6);
    }

    private static void acknowledged() {
        Bench b = new Bench(2);
        b.h.call().tune(2, 4, 5000);
        b.up(4);
        b.h.tape(text(68, 1));
        b.h.call().give(2, 4);
        b.h.run(4);
        b.dueLink(20, 4, 2, 4, 0, 0, 4997, 0, 0, 0, 0, 4, 0, 0, 4);
        b.hearResponse(4, RR + 32, 129);
        // What is TAKEN sets the CLOCK ahead of the step in which CLOCKS go on.
        b.dueLink(20, 4, 2, 5, 1, 0, 4999, 0, 0, 0, 0, 0, 0, 0, 4);
        b.dueLast(20, 6, Harness.command(2, 4, 2 * 4, 129, 240, 65, 66, 67, 68));
        b.h.run(50);
        b.hearResponse(4, RR + 32, 129);
        b.due(20, 4, 4, 4999 - 51 - Bench.ticksOf(Harness.response(4, 2, RR + 32, 129), 1));
        b.hearCommand(4, 32 * 4, 129, 240, 1);
        b.dueLink(20, 4, 2, 5, 4, 1, 4999, 0, 0, 0, 0, 0, 1, 0, 1);
        b.hearResponse(4, RR + 32 * 5, 129);
        b.dueLink(20, 4, 2, 5, 5, 1, 0, 0, 0, 0, 0, 0, 1, 0, 0);
        b.h.run(1000);
        b.dueStation(1, 7);
    }

    private static void held() {
        Bench b = new Bench(2);
        b.h.call().tune(2, 4, 5000);
        b.up(4);
        b.hearResponse(4, RNR, 129);
        b.due(20, 4, 8, 1);
        b.due(20, 4, 4, 0);
        b.h.tape(text(20, 1));
        b.h.call().give(2, 4);
        b.h.run(1);
        b.dueLink(20, 4, 2, 0, 0, 0, 5000, 0, 0, 0, 1, 20, 0, 0, 0);
        b.h.run(10);
        b.due(20, 4, 4, 4990);
        // An I does not end it, RR and REJ do.
        b.hearCommand(4, 0, 129, 240, 1);
        b.due(20, 4, 8, 1);
        b.hearCommand(4, RR, 129);
        b.due(20, 4, 8, 0);
        b.due(20, 4, 12, 1);
        b.h.run(1);
        b.due(20, 4, 12, 2);
        b.hearCommand(4, RNR + POLL, 129);
        b.due(20, 4, 8, 1);
        b.dueLast(20, 5, Harness.response(2, 4, RR + POLL + 32, 129));
        b.hearResponse(4, REJ, 129);
        b.due(20, 4, 8, 0);
        b.dueStation(1, 7);
    }

    private static void heldClock() {
        // HELD with something SENT alone, or PACKETS alone, or nothing.
        Bench b = new Bench(2);
        b.h.call().tune(2, 4, 700);
        b.up(4);
        b.hearResponse(4, RNR, 129);
        b.h.run(300);
        b.due(20, 4, 4, 0);
        b.hear(Harness.nodes(4));
        b.h.tape(text(3, 1));
        b.h.call().letter(2, 4);
        b.h.run(1);
        b.due(20, 4, 11, 1);
        b.due(20, 4, 4, 700);
        b.h.run(700);
        b.due(20, 4, 6, 1);
        b.due(20, 4, 5, 1);
        b.dueLast(20, 2, Harness.command(2, 4, RR + POLL, 129));
        // HELD goes on: neither an I nor a CLOCK that stands.
        b.hearResponse(4, RNR + POLL, 129);
        b.dueLink(20, 4, 2, 0, 0, 0, 700, 0, 0, 0, 1, 0, 0, 1, 0);
        b.dueStation(1, 2);
    }

    private static void rejected() {
        Bench b = new Bench(2);
        b.h.call().tune(2, 4, 5000);
        b.up(4);
        b.h.tape(text(48, 1));
        b.h.call().give(2, 4);
        b.h.run(3);
        b.hearCommand(4, 0, 129, 240, 9);
        b.dueStation(1, 5);
        b.hearResponse(4, REJ + 32, 129);
        b.dueStation(1, 7);
        Harness.dueRow(20, "said again", b.h.queued(2, 5),
                Harness.command(2, 4, Harness.join(Harness.bytes(2 + 32, 129, 240), text(16, 17))));
        Harness.dueRow(20, "said again", b.h.queued(2, 6),
                Harness.command(2, 4, Harness.join(Harness.bytes(4 + 32, 129, 240), text(16, 33))));
        b.dueLink(20, 4, 2, 3, 1, 1, 4999, 0, 0, 0, 0, 0, 1, 0, 2);
        b.hearCommand(4, REJ + POLL + 32 * 3, 129);
        b.dueLast(20, 8, Harness.response(2, 4, RR + POLL + 32, 129));
        b.dueLink(20, 4, 2, 3, 3, 1, 0, 0, 0, 0, 0, 0, 1, 0, 0);
    }

    private static void polls() {
        Bench b = new Bench(2);
        b.h.call().tune(2, 4, 400);
        b.up(4);
        b.h.tape(text(40, 1));
        b.h.call().give(2, 4);
        b.h.run(2);
        b.h.run(398);
        b.dueLink(20, 4, 2, 3, 0, 0, 1, 0, 0, 0, 0, 0, 0, 0, 3);
        b.h.run(1);
        b.dueLink(20, 4, 2, 3, 0, 0, 400, 1, 1, 0, 0, 0, 0, 0, 3);
        b.dueLast(20, 5, Harness.command(2, 4, RR + POLL, 129));
        b.h.tape(text(4, 1));
        b.h.call().give(2, 4);
        // While it POLLS nothing is said, and neither RR without F, nor REJ, nor a COMMAND with P ends it.
        b.hearResponse(4, REJ + 32, 129);
        b.dueLink(20, 4, 2, 3, 1, 0, 399, 0, 1, 0, 0, 4, 0, 0, 2);
        b.dueStation(1, 5);
        b.hearResponse(4, RR + 32 * 3, 129);
        b.dueLink(20, 4, 2, 3, 3, 0, 399, 0, 1, 0, 0, 4, 0, 0, 0);
        b.hearCommand(4, RR + POLL + 32 * 3, 129);
        b.due(20, 4, 6, 1);
        b.dueLast(20, 6, Harness.response(2, 4, RR + POLL, 129));
        b.hearResponse(4, RR + POLL + 32 * 3, 129);
        b.dueLink(20, 4, 2, 4, 3, 0, 400, 0, 0, 0, 0, 0, 0, 0, 1);
        b.dueStation(1, 7);
    }

    private static void pollAnswers() {
        Bench b = new Bench(2);
        b.h.call().tune(2, 4, 300);
        b.up(4);
        b.h.tape(text(20, 1));
        b.h.call().give(2, 4);
        b.h.run(2);
        b.h.run(299);
        b.due(20, 4, 6, 1);
        b.dueStation(1, 4);
        b.hearResponse(4, RNR + POLL + 32, 129);
        b.dueLink(20, 4, 2, 2, 1, 0, 299, 0, 0, 0, 1, 0, 0, 0, 1);
        b.dueStation(1, 4);
        b.h.run(300);
        b.due(20, 4, 6, 1);
        b.due(20, 4, 5, 1);
        b.dueStation(1, 5);
        b.h.call().tune(2, 4, 20000);
        b.hearResponse(4, RR + POLL + 32, 129);
        b.dueLink(20, 4, 2, 2, 1, 0, 19999, 0, 0, 0, 0, 0, 0, 0, 1);
        b.dueLast(20, 6, Harness.command(2, 4, 2, 129, 240, 17, 18, 19, 20));
        // F without a poll of one's own is nothing.
        b.hearResponse(4, RR + POLL + 32, 129);
        b.dueStation(1, 6);
        b.hearResponse(4, REJ + POLL + 32, 129);
        b.dueStation(1, 7);
    }

    private static void triesEnd() {
        Bench b = new Bench(2);
        b.h.call().tune(2, 4, 100);
        b.up(4);
        b.h.tape(text(4, 1));
        b.h.call().give(2, 4);
        b.h.run(1);
        for (int i = 1; i <= 6; i++) {
            b.h.run(99);
            b.due(20, 4, 5, i - 1);
            b.h.run(1);
            b.due(20, 4, 5, i);
            b.dueStation(1, 2 + i);
        }
        b.h.run(99);
        b.due(20, 4, 0, 2);
        b.h.run(1);
        b.dueLink(20, 4, 0, 0, 0, 0, 0, 0, 0, 0, 0, 0, 0, 0, 0, 129);
        b.dueLast(20, 9, Harness.response(2, 4, DM, 129));
        for (int leaving = 0; leaving < 2; leaving++) {
            b = new Bench(2);
            b.h.call().tune(2, 4, 150);
            b.h.call().call(2, 0, 3, -1);
            if (leaving == 1) {
                b.h.call().leave(2, 0);
            }
            b.h.run(750);
            b.due(20, 0, 5, 6);
            b.dueLast(20, 6 + leaving,
                    Harness.frame(2, 0, true, Harness.bytes(3), (leaving == 1 ? DISC : SABM) + POLL, 129));
            b.h.run(149);
            b.due(20, 0, 0, leaving == 1 ? 3 : 1);
            b.h.run(1);
            b.due(20, 0, 0, 0);
            b.due(20, 0, 5, 0);
            b.dueStation(1, 6 + leaving);
        }
    }

    private static void queueOfEight() {
        Bench b = new Bench(2);
        b.up(4);
        b.up(0);
        for (int i = 0; i < 4; i++) {
            b.h.tape(Harness.command(0, 1, 99, 7));
            b.h.call().raw(2);
        }
        b.h.tape(text(48, 1));
        b.h.call().give(2, 0);
        b.h.tape(text(48, 1));
        b.h.call().give(2, 4);
        b.h.run(5);
        b.dueStation(1, 8);
        b.due(20, 0, 12, 1);
        b.due(20, 4, 12, 1);
        // By stations, then by other ends from 0 on.
        Harness.due(20, "the first I goes to 0", b.h.call().queued(2, 6, 6), 96 + 128);
        Harness.due(20, "the second one to 4", b.h.call().queued(2, 7, 6), 96 + 8 + 128);
    }

    private static void queueIsFull() {
        Bench b = new Bench(2);
        b.up(4);
        for (int i = 0; i < 11; i++) {
            b.h.tape(Harness.command(0, 1, 99, 7));
            b.h.call().raw(2);
        }
        b.hearCommand(4, 0, 129, 240, 1);
        b.dueStation(9, 1);
        b.due(20, 4, 3, 1);
        b.hearCommand(4, DISC, 129);
        b.dueStation(9, 2);
        b.due(20, 4, 0, 0);
        b.hear(Harness.frame(4, 3, true, Harness.bytes(2), DISC, 1));
        b.dueStation(9, 3);
        b.dueStation(1, 12);
        Harness.due(16, "beacon(2)", b.h.call().beacon(2), 0);
        b.dueStation(9, 4);
    }

    private static void repeats() {
        Bench b = new Bench(2);
        int[] to = Harness.stationAddress(3, 128);
        int[] from = Harness.stationAddress(4, 0);
        int[] rest = Harness.bytes(DISC, 5);
        b.hear(Harness.join(to, from, Harness.stationAddress(2, 1), rest));
        b.dueLast(20, 1, Harness.join(to, from, Harness.stationAddress(2, 129), rest));
        b.hear(Harness.join(to, from, Harness.stationAddress(2, 0), Harness.stationAddress(1, 1), rest));
        b.dueLast(20, 2, Harness.join(to, from, Harness.stationAddress(2, 128), Harness.stationAddress(1, 1), rest));
        b.hear(Harness.join(to, from, Harness.stationAddress(1, 128), Harness.stationAddress(2, 1), rest));
        b.dueLast(20, 3, Harness.join(to, from, Harness.stationAddress(1, 128), Harness.stationAddress(2, 129), rest));
        // The first one that is not REPEATED is another one, or all are.
        b.hear(Harness.join(to, from, Harness.stationAddress(1, 0), Harness.stationAddress(2, 1), rest));
        b.hear(Harness.join(to, from, Harness.stationAddress(1, 0), Harness.stationAddress(2, 129), rest));
        b.hear(Harness.join(to, from, Harness.stationAddress(2, 128), Harness.stationAddress(1, 1), rest));
        b.hear(Harness.join(to, from, Harness.stationAddress(2, 129), rest));
        // To s, but a VIA is not REPEATED.
        b.hear(Harness.join(Harness.stationAddress(2, 128), from, Harness.stationAddress(1, 1), rest));
        b.dueStation(1, 3);
        b.dueStation(8, 0);
    }

    private static void bad() {
        int[] to = Harness.stationAddress(2, 128);
        int[] from = Harness.stationAddress(4, 1);
        int[] end = Harness.bytes(DISC, 5);
        int[] other = Harness.stationAddress(4, 0);
        int[] nodes = Harness.address("NODES ", 224);
        int[][] wrong = {
            Harness.join(to, from, Harness.bytes(DISC)),
            Harness.join(to, from, Harness.bytes(DISC, 5, 5)),
            Harness.join(Harness.stationAddress(2, 0), from, end),
            Harness.join(to, Harness.stationAddress(4, 129), end),
            Harness.join(Harness.stationAddress(2, 0), Harness.stationAddress(4, 129), end),
            Harness.join(to, from, Harness.bytes(UA, 5)),
            Harness.join(to, from, Harness.bytes(DM, 5)),
            Harness.join(Harness.stationAddress(2, 0), Harness.stationAddress(4, 129), Harness.bytes(SABM, 129)),
            Harness.join(Harness.stationAddress(2, 0), Harness.stationAddress(4, 129), Harness.bytes(0, 0, 240, 1)),
            Harness.join(to, from, Harness.bytes(3, 5)),
            Harness.join(to, from, Harness.bytes(13, 5)),
            Harness.join(to, from, Harness.bytes(7, 5)),
            Harness.join(to, from, Harness.bytes(0, 5, 240)),
            Harness.join(to, from, Harness.bytes(0, 5, 241, 1)),
            Harness.join(to, from, Harness.bytes(0, 5), new int[17]),
            Harness.join(to, from, Harness.bytes(0, 5, 240), new int[17]),
            Harness.join(Harness.address("FIELD ", 96 + 12 + 128), from, end),
            Harness.join(Harness.address("FIELD ", 94 + 128), from, end),
            Harness.join(Harness.address("FIELDS", 96 + 4 + 128), from, end),
            Harness.join(Harness.address("FIELD ", 32 + 4 + 128), from, end),
            Harness.join(to, Harness.stationAddress(2, 1), end),
            Harness.join(Harness.stationAddress(2, 129), from, end),
            Harness.join(to, other, Harness.stationAddress(4, 1), end),
            Harness.join(to, other, Harness.stationAddress(2, 129), end),
            Harness.join(to, other, Harness.stationAddress(1, 128), Harness.stationAddress(1, 129), end),
            Harness.join(to, other, Harness.stationAddress(1, 128), Harness.stationAddress(3, 128), end),
            Harness.join(to, other, Harness.stationAddress(1, 128), Harness.stationAddress(3, 128),
                    Harness.stationAddress(0, 129), end),
            Harness.join(to, other, Harness.address("NODES ", 97), end),
            Harness.join(to, other, Harness.stationAddress(1, 1)),
            Harness.join(to, other, Harness.stationAddress(1, 0), Harness.stationAddress(3, 1)),
            Harness.join(to, Harness.address("NODES ", 97), end),
            Harness.join(Harness.stationAddress(2, 129), Harness.bytes(0, 0, 240), new int[12]),
            Harness.join(nodes, from, end),
            Harness.join(nodes, other, Harness.stationAddress(1, 129), Harness.bytes(3, 207, 255)),
            Harness.join(Harness.address("NODES ", 226), from, Harness.bytes(3, 207, 255)),
            Harness.join(Harness.address("NODES ", 96), Harness.stationAddress(4, 129), Harness.bytes(3, 207, 255)),
            Harness.join(nodes, from, Harness.bytes(19, 207, 255)),
            Harness.join(nodes, from, Harness.bytes(3, 208, 255)),
            Harness.join(nodes, from, Harness.bytes(3, 207, 254)),
            Harness.join(nodes, from, Harness.bytes(3, 207)),
            Harness.nodes(4, 1),
            Harness.nodes(4, 1, 1),
            Harness.nodes(4, 6, 1, 200),
            Harness.nodes(4, 1, 6, 200),
            Harness.nodes(4, 0, 1, 200, 1, 1, 3, 6, 1, 1),
            Harness.nodes(4, new int[18]),
            Harness.command(2, 2, DISC, 5),
            text(15, 1),
            text(90, 1)};
        Bench b = new Bench(2);
        for (int i = 0; i < wrong.length; i++) {
            b.hear(wrong[i]);
            Harness.due(19, "BAD ones, case " + i, b.h.station(2, 8), i + 1);
        }
        b.dueStation(1, 0);
        b.due(20, 4, 0, 0);
        Harness.due(21, "route(2, 4, 4, 0)", b.h.call().route(2, 4, 4, 0), 0);
        b.dueStation(6, wrong.length);
    }

    /** All kinds at their edges are not BAD, to whom ever they are. */
    private static void goodEdges() {
        int[] to = Harness.stationAddress(3, 128);
        int[] back = Harness.stationAddress(3, 0);
        int[] from = Harness.stationAddress(0, 1);
        int[] fromBack = Harness.stationAddress(0, 129);
        int[][] good = {
            Harness.join(to, from, Harness.bytes(SABM + POLL, 0)), Harness.join(to, from, Harness.bytes(DISC + POLL, 255)),
            Harness.join(back, fromBack, Harness.bytes(DM + POLL, 0)), Harness.join(back, fromBack, Harness.bytes(UA, 0)),
            Harness.join(to, from, Harness.bytes(RR + POLL + 32 * 7, 0)),
            Harness.join(back, fromBack, Harness.bytes(RNR + 32 * 7, 0)),
            Harness.join(back, fromBack, Harness.bytes(REJ + 32 * 5, 0)),
            Harness.join(to, from, Harness.bytes(254, 9, 207, 1)),
            Harness.join(to, from, Harness.bytes(0, 9, 240), new int[16]),
            Harness.nodes(0, new int[15]), Harness.nodes(0), Harness.nodes(2, 5, 5, 255)};
        Bench b = new Bench(2);
        for (int i = 0; i < good.length; i++) {
            b.hear(good[i]);
            Harness.due(19, "BAD ones, good case " + i, b.h.station(2, 8), 0);
        }
        b.dueStation(1, 0);
    }
}
