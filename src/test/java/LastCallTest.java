/**
 * "An object is used for at most 512 calls": each promise, asked for by the 512th call, behind some hundred thousand
 * TICKS. What that call changes can't be looked at any more, so it is its answer that is compared.
 */
public final class LastCallTest {
    private static final int NONE = PacketField.NONE;
    private static final int[] HELLO = {104, 101, 108, 108, 111};

    public static void main(String[] args) {
        tape();
        framesAndBits();
        settings();
        channel();
        links();
        routesAndLetters();
        stream();
        Harness.finish();
    }

    /** Lets TICKS go on until there is one call left, and makes it. */
    private static PacketField last(Harness h) {
        while (h.left() > 1) {
            h.run(1000);
        }
        PacketField field = h.call();
        Harness.due(1, "calls that are left", h.left(), 0);
        return field;
    }

    private static Harness withTape(int count) {
        Harness h = new Harness();
        h.tape(Harness.row(count, 3));
        return h;
    }

    private static void tape() {
        Harness.due(2, "feed to a TAPE of 240", last(withTape(240)).feed(1, 2, 3, 4, 5), true);
        Harness.due(2, "feed to a TAPE of 241", last(withTape(241)).feed(1, 2, 3, 4, 5), false);
        Harness.due(3, "end(241) of a TAPE of 241", last(withTape(241)).end(241), true);
        Harness.due(3, "end(242) of a TAPE of 241", last(withTape(241)).end(242), false);
    }

    private static void framesAndBits() {
        int[] frame = Harness.row(15, 3);
        int count = 24 + Model.bitsOf(frame).size();
        Harness.due(5, "bits(0)", last(withTape(15)).bits(0), count);
        Harness.due(5, "bits(0) of 14 BYTES", last(withTape(14)).bits(0), NONE);
        for (int beyond = 0; beyond < 2; beyond++) {
            Harness h = withTape(15);
            h.call().bits(1);
            // The last bit of a FLAG is a 0, and so turns the level.
            int before = h.call().out(count - 2);
            Harness.due(4, "the last LEVEL", last(h).out(count - 1 + beyond), beyond == 0 ? 1 - before : NONE);
        }
        Harness h = withTape(15);
        int levels = h.call().bits(0);
        int[] row = new int[(levels + 7) / 8];
        for (int i = 0; i < levels; i++) {
            row[i / 8] |= h.call().out(i) << i % 8;
        }
        h.tape(row);
        Harness.due(6, "unbits()", last(h).unbits(), 1);
    }

    private static void settings() {
        Harness.due(7, "hears(0, 5, false)", last(new Harness()).hears(0, 5, false), true);
        Harness.due(7, "hears(5, 5, false)", last(new Harness()).hears(5, 5, false), false);
        Harness.due(8, "tune(5, 6, 20000)", last(new Harness()).tune(5, 6, 20000), true);
        Harness.due(8, "tune(5, 6, 199)", last(new Harness()).tune(5, 6, 199), false);
    }

    private static void channel() {
        Harness.due(9, "raw(5)", last(withTape(90)).raw(5), true);
        Harness.due(9, "raw(5) of 91 BYTES", last(withTape(91)).raw(5), false);
        Harness h = new Harness();
        Harness.due(18, "time()", last(h).time(), 511000);
        h = new Harness();
        h.call().tune(3, 6, 200);
        h.call().tune(3, 0, 256);
        Harness.due(17, "run(1000) with five FRAMES to five stations", last(h).run(1000), 25);
        Harness.due(17, "run(1001)", last(new Harness()).run(1001), NONE);
        h = new Harness();
        h.call().tune(3, 6, 1000);
        h.call().tune(3, 0, 256);
        // The first one comes to the QUEUE in TICK 1000 and goes in TICK 1001 on: the last one has not gone.
        Harness.due(19, "FRAMES that went from the QUEUE", last(h).station(3, 5), 508);
        h = new Harness();
        h.call().tune(4, 0, 0);
        h.raw(4, Harness.row(15, 7));
        Harness.due(23, "queued(4, 0, 14)", last(h).queued(4, 0, 14), 21);
    }

    private static Harness up() {
        Harness h = new Harness();
        h.call().tune(0, 0, 256);
        h.call().tune(1, 0, 256);
        h.call().call(0, 1, NONE, NONE);
        h.run(1000);
        Harness.due(20, "MODE", h.link(0, 1, 0), 2);
        return h;
    }

    private static void links() {
        Harness.due(10, "call(0, 1, 2, 3)", last(new Harness()).call(0, 1, 2, 3), true);
        Harness.due(10, "call(0, 1, ..) when it is UP", last(up()).call(0, 1, NONE, NONE), false);
        Harness.due(11, "leave(0, 1)", last(up()).leave(0, 1), true);
        Harness.due(11, "leave(0, 2)", last(up()).leave(0, 2), false);
        Harness.due(20, "MODE of a LINK that is used no more", last(up()).link(1, 0, 0), 2);
        Harness h = up();
        h.tape(HELLO);
        Harness.due(12, "give(0, 1)", last(h).give(0, 1), 5);
        h = up();
        h.tape(HELLO);
        Harness.due(12, "give(0, 2)", last(h).give(0, 2), PacketField.STATE);
        h = up();
        h.tape(Harness.row(201, 0));
        Harness.due(12, "give(0, 1) of 201 BYTES", last(h).give(0, 1), PacketField.FULL);
        h = up();
        h.give(0, 1, HELLO);
        Harness.due(13, "read(1, 0, 64)", last(h).read(1, 0, 64), 5);
        Harness.due(13, "read(1, 0, 65)", last(up()).read(1, 0, 65), NONE);
    }

    private static void routesAndLetters() {
        Harness h = withTape(12);
        Harness.due(14, "letter(2, 2)", last(h).letter(2, 2), 0);
        h = new Harness();
        for (int i = 0; i < 100; i++) {
            Harness.due(14, "letter " + i, h.letter(2, 2, 65 + i), i);
            Harness.due(15, "take(2) of letter " + i, h.call().take(2), 512 + i);
        }
        h.tape(66);
        Harness.due(14, "the 101st letter", last(h).letter(2, 2), 100);
        h = new Harness();
        h.letter(4, 4, 65);
        Harness.due(15, "take(4)", last(h).take(4), 1024);
        h = told();
        Harness.due(16, "beacon(1)", last(h).beacon(1), 1);
        Harness.due(21, "AGE", last(told()).route(1, 0, 0, 1), 5);
        Harness.due(21, "QUALITY", last(told()).route(1, 0, 0, 0), 192);
        Harness.due(22, "best(1, 0)", last(told()).best(1, 0), 0);
        Harness.due(22, "best(1, 2)", last(told()).best(1, 2), NONE);
    }

    /** All have a ROUTE to station 0. */
    private static Harness told() {
        Harness h = new Harness();
        h.call().tune(0, 0, 256);
        h.call().beacon(0);
        Harness.due(17, "a BEACON ARRIVES at five stations", h.run(1000), 5);
        return h;
    }

    /** BYTES over one LINK up to the last call, I numbered from 0 to 7 many times over. */
    private static void stream() {
        Harness h = up();
        int rounds = 0;
        while (h.left() >= 7) {
            int[] text = {rounds, 255 - rounds};
            Harness.due(12, "give of round " + rounds, h.give(0, 1, text), 2);
            h.run(1000);
            Harness.due(13, "read of round " + rounds, h.call().read(1, 0, 64), 2);
            Harness.due(4, "out(1) of round " + rounds, h.call().out(1), 255 - rounds);
            rounds++;
            Harness.due(20, "VS behind round " + rounds, h.link(0, 1, 1), rounds % 8);
        }
        Harness.due(20, "VR behind the last round", last(h).link(1, 0, 3), rounds % 8);
    }
}
