/**
 * Boundary cases of part IV and of promises 14, 15, 16, 21 and 22: a method for each sentence, which stands above it.
 * Station 2 is on the bench.
 */
public final class RouteEdgesTest {
    private static final int LOW = Integer.MIN_VALUE;
    private static final int HIGH = Integer.MAX_VALUE;
    private static final int[] NO_STATIONS = {LOW, -2, -1, 6, 7, HIGH};

    public static void main(String[] args) {
        routesOfOthers();
        routeOfQualityOrAge();
        bestOf10OrMore();
        bestIsTheLowest();
        bestOfNone();
        ageOf5();
        ageOfALowQuality();
        ageAnew();
        ageByEvery();
        qualityIsCut();
        qualityByWayOfS();
        routeToSItself();
        nodesFromSItself();
        beaconOf0To5();
        beaconTellsBestAlone();
        beaconIntoAFullQueue();
        textOf1To12();
        textOfAPacket();
        originAndDestination();
        letterOfNoStations();
        lettersAreCounted();
        mailboxOf8();
        mailboxOf8ByALink();
        lifeOf0();
        lifeOf0AtItsEnd();
        noBestIsLost();
        packetCallsADownLink();
        packetsOf6();
        packetsOf6OnTheWay();
        takeWithoutOne();
        takeByOriginAndNumber();
        Harness.finish();
    }

    private static void dueRoute(Harness h, int d, int n, int quality, int age) {
        Harness.due(21, "route(2, " + d + ", " + n + ", 0)", h.call().route(2, d, n, 0), quality);
        Harness.due(21, "route(2, " + d + ", " + n + ", 1)", h.call().route(2, d, n, 1), age);
    }

    private static void dueBest(Harness h, int d, int want) {
        Harness.due(22, "best(2, " + d + ")", h.call().best(2, d), want);
    }

    private static int[] packet(int t, int... bytes) {
        return Harness.join(Harness.bytes(2 * t, 129, 207), bytes);
    }

    /** "A station s has for each other station d, and each other one n, a ROUTE to d by n" */
    private static void routesOfOthers() {
        Harness h = new Harness();
        for (int d : new int[] {LOW, -1, 0, 1, 2, 3, 4, 5, 6, HIGH}) {
            for (int n : new int[] {LOW, -1, 0, 1, 2, 3, 4, 5, 6, HIGH}) {
                boolean is = d >= 0 && d <= 5 && d != 2 && n >= 0 && n <= 5 && n != 2;
                dueRoute(h, d, n, is ? 0 : -1, is ? 0 : -1);
            }
        }
        for (int s : NO_STATIONS) {
            Harness.due(21, "route(" + s + ", 0, 1, 0)", h.call().route(s, 0, 1, 0), -1);
        }
        // By d itself, too.
        Bench b = new Bench(2);
        b.hear(Harness.nodes(4));
        dueRoute(b.h, 4, 4, 192, 5);
    }

    /** "QUALITY (what 0), AGE (1; 0 without a QUALITY). NONE for others." */
    private static void routeOfQualityOrAge() {
        Bench b = new Bench(2);
        b.hear(Harness.nodes(4, 0, 2, 200));
        int[][] due = {{LOW, -1}, {-1, -1}, {0, 192}, {1, 5}, {2, -1}, {HIGH, -1}};
        for (int[] d : due) {
            Harness.due(21, "route(2, 4, 4, " + d[0] + ")", b.h.call().route(2, 4, 4, d[0]), d[1]);
        }
        // A ROUTE that was told, but by way of s: QUALITY 0, and so no AGE.
        dueRoute(b.h, 0, 4, 0, 0);
    }

    /** "the n of the greatest QUALITY .., if that is 10 or more" */
    private static void bestOf10OrMore() {
        for (int path = 8; path <= 11; path++) {
            Bench b = new Bench(2);
            b.h.call().tune(2, 5, path);
            b.hear(Harness.nodes(4));
            dueRoute(b.h, 4, 4, path, 5);
            dueBest(b.h, 4, path >= 10 ? 4 : -1);
            Harness.due(16, "beacon(2)", b.h.call().beacon(2), path >= 10 ? 1 : 0);
            b.h.letter(2, 4, 1);
            Harness.due(14, "LOST", b.h.station(2, 9), path >= 10 ? 0 : 1);
        }
    }

    /** "the n of the greatest QUALITY (the lowest of these)" */
    private static void bestIsTheLowest() {
        Bench b = new Bench(2);
        b.h.call().tune(2, 5, 255);
        b.hear(Harness.nodes(5, 0, 5, 100));
        dueBest(b.h, 0, 5);
        b.hear(Harness.nodes(3, 0, 3, 100));
        dueBest(b.h, 0, 3);
        b.hear(Harness.nodes(4, 0, 4, 100));
        dueBest(b.h, 0, 3);
        b.hear(Harness.nodes(1, 0, 1, 100));
        dueBest(b.h, 0, 1);
        // One more, one less.
        b.hear(Harness.nodes(4, 0, 4, 102));
        dueBest(b.h, 0, 4);
        b.hear(Harness.nodes(4, 0, 4, 99));
        dueBest(b.h, 0, 1);
    }

    /** "BEST at a station to d; NONE without one." */
    private static void bestOfNone() {
        Bench b = new Bench(2);
        b.hear(Harness.nodes(4, 2, 5, 255));
        for (int d = 0; d < 6; d++) {
            dueBest(b.h, d, d == 4 ? 4 : -1);
        }
        for (int k : NO_STATIONS) {
            dueBest(b.h, k, -1);
            Harness.due(22, "best(" + k + ", 4)", b.h.call().best(k, 4), -1);
        }
    }

    /** "each of its ROUTES with a QUALITY has an AGE less by one, and QUALITY 0 if that is 0"; "AGE 5" */
    private static void ageOf5() {
        Bench b = new Bench(2);
        b.hear(Harness.nodes(4, 0, 4, 255));
        for (int age = 5; age >= 1; age--) {
            dueRoute(b.h, 4, 4, 192, age);
            dueRoute(b.h, 0, 4, 191, age);
            dueBest(b.h, 0, 4);
            Harness.due(16, "beacon(2) at AGE " + age, b.h.call().beacon(2), age > 1 ? 2 : 0);
        }
        dueRoute(b.h, 4, 4, 0, 0);
        dueRoute(b.h, 0, 4, 0, 0);
        dueBest(b.h, 4, -1);
        b.dueLast(16, 5, Harness.nodes(2));
        Harness.due(16, "beacon(2) behind", b.h.call().beacon(2), 0);
        dueRoute(b.h, 4, 4, 0, 0);
    }

    /** "each of its ROUTES with a QUALITY": also with one that is no BEST; to the first and to the last d. */
    private static void ageOfALowQuality() {
        Bench b = new Bench(2);
        b.hear(Harness.nodes(0, 5, 0, 1));
        b.hear(Harness.nodes(5, 0, 5, 12));
        b.h.call().tune(2, 5, 1);
        b.hear(Harness.nodes(0));
        dueRoute(b.h, 0, 0, 1, 5);
        dueRoute(b.h, 5, 0, 1, 5);
        dueRoute(b.h, 0, 5, 9, 5);
        for (int i = 1; i <= 4; i++) {
            b.h.call().beacon(2);
            dueRoute(b.h, 0, 0, 1, 5 - i);
            dueRoute(b.h, 5, 0, 1, 5 - i);
            dueRoute(b.h, 0, 5, 9, 5 - i);
            dueRoute(b.h, 5, 5, 192, 5 - i);
        }
        b.h.call().beacon(2);
        dueRoute(b.h, 0, 0, 0, 0);
        dueRoute(b.h, 5, 0, 0, 0);
        dueRoute(b.h, 0, 5, 0, 0);
        dueRoute(b.h, 5, 5, 0, 0);
    }

    /** "has QUALITY PATH, AGE 5": told anew at AGE 1, and when it is gone. */
    private static void ageAnew() {
        Bench b = new Bench(2);
        for (int beacons : new int[] {4, 5, 6}) {
            b.hear(Harness.nodes(4, 0, 4, 255));
            dueRoute(b.h, 4, 4, 192, 5);
            dueRoute(b.h, 0, 4, 191, 5);
            for (int i = 0; i < beacons; i++) {
                b.h.call().beacon(2);
            }
            dueRoute(b.h, 4, 4, beacons < 5 ? 192 : 0, beacons < 5 ? 1 : 0);
        }
        // What is not told any more grows old alone.
        b.hear(Harness.nodes(4, 0, 4, 255));
        b.h.call().beacon(2);
        b.hear(Harness.nodes(4));
        dueRoute(b.h, 4, 4, 192, 5);
        dueRoute(b.h, 0, 4, 191, 4);
    }

    /** "In step 7: if EVERY is above 0 and TIME a multiple of it.": that is a BEACON as any other. */
    private static void ageByEvery() {
        Bench b = new Bench(2).unheard();
        b.hear(Harness.nodes(4, 0, 4, 255));
        int time = b.h.call().time();
        Harness.due(18, "TIME is below 600", time < 600, true);
        b.h.call().tune(2, 6, 1000);
        b.h.run(999 - time);
        for (int age = 5; age >= 1; age--) {
            dueRoute(b.h, 4, 4, 192, age);
            b.h.run(1);
            dueRoute(b.h, 4, 4, age > 1 ? 192 : 0, age - 1);
            b.h.run(999);
        }
        b.dueLast(16, 5, Harness.nodes(2));
        Harness.dueRow(16, "the BEACON before", b.h.queued(2, 3), Harness.nodes(2, 0, 4, 191, 4, 4, 192));
    }

    /** "(q * PATH + 128) / 256 (cut)" */
    private static void qualityIsCut() {
        int[][] due = {{1, 0, 0}, {1, 127, 0}, {1, 128, 1}, {1, 255, 1}, {64, 1, 0}, {64, 2, 1}, {64, 5, 1}, {64, 6, 2},
            {128, 0, 0}, {128, 1, 1}, {128, 2, 1}, {128, 3, 2}, {255, 0, 0}, {255, 1, 1}, {255, 128, 128}, {255, 129, 128},
            {255, 254, 253}, {255, 255, 254}, {192, 255, 191}, {192, 12, 9}, {192, 13, 10}};
        for (int[] d : due) {
            Bench b = new Bench(2);
            b.h.call().tune(2, 5, d[0]);
            b.hear(Harness.nodes(4, 0, 1, d[1]));
            dueRoute(b.h, 0, 4, d[2], d[2] > 0 ? 5 : 0);
            dueBest(b.h, 0, d[2] >= 10 ? 4 : -1);
        }
    }

    /** "the ROUTE to d by n has QUALITY 0 if b is s" */
    private static void qualityByWayOfS() {
        for (int by = 0; by < 6; by++) {
            Bench b = new Bench(2);
            b.hear(Harness.nodes(4, 0, 3, 255));
            b.hear(Harness.nodes(4, 0, by, 255));
            dueRoute(b.h, 0, 4, by == 2 ? 0 : 191, by == 2 ? 0 : 5);
        }
    }

    /** "for each d that is not s" */
    private static void routeToSItself() {
        Bench b = new Bench(2);
        b.hear(Harness.nodes(4, 2, 5, 255, 1, 5, 255));
        dueRoute(b.h, 2, 4, -1, -1);
        dueBest(b.h, 2, -1);
        dueRoute(b.h, 1, 4, 191, 5);
        Harness.due(16, "beacon(2)", b.h.call().beacon(2), 2);
        b.dueLast(16, 1, Harness.nodes(2, 1, 4, 191, 4, 4, 192));
    }

    /** "or to NODES and not from s" */
    private static void nodesFromSItself() {
        for (int from = 0; from < 6; from++) {
            Bench b = new Bench(2);
            int d = from == 0 ? 1 : 0;
            b.hear(Harness.nodes(from, d, 5, 255));
            b.dueStation(8, 0);
            int known = 0;
            for (int n = 0; n < 6; n++) {
                known += b.h.call().best(2, n) != -1 ? 1 : 0;
            }
            Harness.due(22, "stations with a BEST by NODES from " + from, known, from == 2 ? 0 : 2);
        }
    }

    /** "how many it tells": none, and all the five others */
    private static void beaconOf0To5() {
        for (int count = 0; count <= 5; count++) {
            Bench b = new Bench(2);
            int[] from = {0, 1, 3, 4, 5};
            int[] due = new int[3 * count];
            for (int i = 0; i < count; i++) {
                b.hear(Harness.nodes(from[i]));
                due[3 * i] = from[i];
                due[3 * i + 1] = from[i];
                due[3 * i + 2] = 192;
            }
            Harness.due(16, "beacon(2) of " + count, b.h.call().beacon(2), count);
            b.dueLast(16, 1, Harness.nodes(2, due));
        }
        Harness h = new Harness();
        for (int s : NO_STATIONS) {
            Harness.due(16, "beacon(" + s + ")", h.call().beacon(s), -1);
        }
    }

    /** "with d, BEST, its QUALITY for each d that has a BEST, from 0 on" */
    private static void beaconTellsBestAlone() {
        Bench b = new Bench(2);
        b.hear(Harness.nodes(4, 0, 1, 12, 1, 1, 13, 5, 1, 14));
        // 12 by 192 is 9, 13 is 10.
        Harness.due(16, "beacon(2)", b.h.call().beacon(2), 3);
        b.dueLast(16, 1, Harness.nodes(2, 1, 4, 10, 4, 4, 192, 5, 4, 11));
    }

    /** "a FRAME to NODES comes to its QUEUE": at most 12 are there, one more is LOST. */
    private static void beaconIntoAFullQueue() {
        for (int count = 11; count <= 12; count++) {
            Bench b = new Bench(2);
            b.hear(Harness.nodes(4));
            b.fill(count);
            Harness.due(16, "beacon(2) with " + count, b.h.call().beacon(2), 1);
            b.dueStation(1, 12);
            b.dueStation(9, count - 11);
            dueRoute(b.h, 4, 4, 192, 4);
        }
    }

    /** "The TAPE is a text, 1 .. 12 BYTES: ..; NONE if .. there is no such text." */
    private static void textOf1To12() {
        Harness h = new Harness();
        int number = 0;
        for (int count : new int[] {0, 1, 2, 11, 12, 13, 14, 20, 260}) {
            boolean fits = count >= 1 && count <= 12;
            Harness.due(14, "letter of " + count, h.letter(3, 3, Harness.row(count, 200)), fits ? number : -1);
            Harness.due(14, "the TAPE behind it", h.call().end(1), false);
            Harness.due(14, "LETTERS", h.station(3, 10), fits ? 1 : 0);
            Harness.due(15, "take(3)", h.call().take(3), fits ? 768 + number : -1);
            if (fits) {
                Harness.dueRow(15, "its text", h.out(), Harness.row(count, 200));
                number++;
            }
        }
        Harness.due(14, "LOST", h.station(3, 9), 0);
    }

    /** "and 1 to 12 BYTES, the text. (Another one is BAD, and nothing more.)" */
    private static void textOfAPacket() {
        for (int size = 1; size <= 16; size++) {
            Bench b = new Bench(2);
            b.up(4);
            int[] bytes = Harness.row(size, 60);
            for (int i = 0; i < Math.min(4, size); i++) {
                bytes[i] = new int[] {4, 2, 8, 33}[i];
            }
            b.hearCommand(4, packet(0, bytes));
            boolean fits = size >= 5;
            Harness.due(15, "LETTERS by a PACKET of " + size, b.h.station(2, 10), fits ? 1 : 0);
            b.dueStation(8, fits ? 0 : 1);
            b.dueStation(9, 0);
            // The I itself is as any other.
            b.due(15, 4, 3, 1);
            b.dueLast(15, 2, Harness.response(2, 4, Harness.RR + 32, 129));
            Harness.due(15, "take(2)", b.h.call().take(2), fits ? 256 * 4 + 33 : -1);
            Harness.dueRow(15, "its text", b.h.out(), fits ? Harness.row(size - 4, 64) : new int[0]);
        }
    }

    /** "the BYTES origin, destination (0 .. 5)" */
    private static void originAndDestination() {
        for (int k : new int[] {0, 5, 6, 7, 128, 255}) {
            Bench b = new Bench(2);
            b.up(4);
            b.hearCommand(4, packet(0, k, 2, 8, 1, 65));
            b.dueStation(10, k <= 5 ? 1 : 0);
            b.dueStation(8, k <= 5 ? 0 : 1);
            Harness.due(15, "take(2), origin " + k, b.h.call().take(2), k <= 5 ? 256 * k + 1 : -1);
            // There is no ROUTE: LOST, if it is no BAD one.
            b.hearCommand(4, packet(1, 4, k, 8, 1, 65));
            b.dueStation(9, k <= 5 ? 1 : 0);
            b.dueStation(8, k <= 5 ? 0 : 2);
            b.due(14, 4, 3, 2);
        }
    }

    /** "NONE if there are no such stations (they may be the same)" */
    private static void letterOfNoStations() {
        Harness h = new Harness();
        for (int k : NO_STATIONS) {
            Harness.due(14, "letter(" + k + ", 0)", h.letter(k, 0, 1), -1);
            Harness.due(14, "the TAPE behind it", h.call().end(1), false);
            Harness.due(14, "letter(0, " + k + ")", h.letter(0, k, 1), -1);
            Harness.due(14, "the TAPE behind it", h.call().end(1), false);
        }
        Harness.due(14, "LOST", h.station(0, 9), 0);
        for (int k = 0; k < 6; k++) {
            Harness.due(14, "letter(" + k + ", " + k + ")", h.letter(k, k, 1), 0);
            Harness.due(14, "LETTERS", h.station(k, 10), 1);
        }
    }

    /** "as NUMBER how many of s there were ahead": also LOST ones, not those that were refused. */
    private static void lettersAreCounted() {
        Harness h = new Harness();
        Harness.due(14, "the first one", h.letter(1, 1, 7), 0);
        Harness.due(14, "one that is refused", h.letter(1, 6, 7), -1);
        Harness.due(14, "one without a text", h.letter(1, 1), -1);
        Harness.due(14, "one that is LOST", h.letter(1, 0, 7), 1);
        Harness.due(14, "one of another station", h.letter(0, 1, 7), 0);
        Harness.due(14, "the next one", h.letter(1, 1, 7), 2);
        Harness.due(15, "take(1)", h.call().take(1), 256);
        Harness.due(15, "take(1)", h.call().take(1), 258);
        Harness.due(14, "the next one", h.letter(1, 1, 7), 3);
        // As far as 512 calls go.
        for (int i = 4; i < 164; i++) {
            Harness.due(14, "letter " + i, h.letter(1, 1, 7), i);
        }
    }

    /** "it comes to the MAILBOX, if that has fewer than 8, else it is LOST" */
    private static void mailboxOf8() {
        Harness h = new Harness();
        for (int i = 1; i <= 10; i++) {
            h.letter(4, 4, i);
            Harness.due(14, "LETTERS of " + i, h.station(4, 10), Math.min(i, 8));
            Harness.due(14, "LOST of " + i, h.station(4, 9), Math.max(0, i - 8));
        }
        Harness.due(15, "take(4)", h.call().take(4), 1024);
        h.letter(4, 4, 11);
        Harness.due(14, "LETTERS", h.station(4, 10), 8);
        Harness.due(14, "LOST", h.station(4, 9), 2);
        for (int number : new int[] {1, 2, 3, 4, 5, 6, 7, 10, -1}) {
            Harness.due(15, "take(4)", h.call().take(4), number < 0 ? -1 : 1024 + number);
            Harness.due(15, "its text", h.call().out(0), number < 0 ? 11 : number + 1);
        }
    }

    /** "it comes to the MAILBOX, if that has fewer than 8, else it is LOST": by a LINK */
    private static void mailboxOf8ByALink() {
        Bench b = new Bench(2).unheard();
        b.h.call().tune(2, 4, 20000);
        b.up(4);
        for (int i = 0; i < 10; i++) {
            b.hearCommand(4, packet(i % 8, 4, 2, 0, i, 65));
            b.dueStation(10, Math.min(i + 1, 8));
            b.dueStation(9, Math.max(0, i - 7));
            b.due(15, 4, 3, (i + 1) % 8);
        }
    }

    /** "if its LIFE is 0 .. it is LOST"; "its LIFE less by one" */
    private static void lifeOf0() {
        for (int life : new int[] {0, 1, 2, 8, 255}) {
            Bench b = new Bench(2);
            b.up(4);
            b.hear(Harness.nodes(0));
            b.hearCommand(4, packet(0, 4, 0, life, 9, 65));
            b.dueStation(9, life == 0 ? 1 : 0);
            b.due(14, 0, 0, life == 0 ? 0 : 1);
            b.due(14, 0, 11, life == 0 ? 0 : 1);
            if (life > 0) {
                b.hearResponse(0, Harness.UA, 129);
                b.dueLast(14, 4, Harness.command(2, 0, 0, 129, 207, 4, 0, life - 1, 9, 65));
            }
        }
        // A letter's LIFE is 8, and one less when it goes.
        Bench b = new Bench(2);
        b.hear(Harness.nodes(4));
        b.h.letter(2, 4, 65);
        b.hearResponse(4, Harness.UA, 1);
        b.dueLast(14, 2, Harness.command(2, 4, 0, 1, 207, 2, 4, 7, 0, 65));
    }

    /** "if its destination is s: it comes to the MAILBOX": whatever its LIFE is */
    private static void lifeOf0AtItsEnd() {
        for (int life : new int[] {0, 1, 255}) {
            Bench b = new Bench(2);
            b.up(4);
            b.hearCommand(4, packet(0, 4, 2, life, 9, 65));
            b.dueStation(10, 1);
            b.dueStation(9, 0);
        }
    }

    /** "or there is no BEST to its destination, it is LOST" */
    private static void noBestIsLost() {
        Bench b = new Bench(2);
        b.up(4);
        Harness.due(14, "a letter without a BEST", b.h.letter(2, 4, 1), 0);
        b.dueStation(9, 1);
        b.due(14, 4, 11, 0);
        b.h.call().tune(2, 5, 9);
        b.hear(Harness.nodes(4));
        b.h.letter(2, 4, 1);
        b.dueStation(9, 2);
        b.h.call().tune(2, 5, 10);
        b.hear(Harness.nodes(4));
        b.h.letter(2, 4, 1);
        b.dueStation(9, 2);
        b.due(14, 4, 11, 1);
        for (int i = 0; i < 4; i++) {
            b.h.call().beacon(2);
        }
        b.h.letter(2, 4, 1);
        b.dueStation(9, 2);
        b.h.call().beacon(2);
        b.h.letter(2, 4, 1);
        b.dueStation(9, 3);
    }

    /** "if the LINK to that one is DOWN, it is CALLED (without VIAS)" */
    private static void packetCallsADownLink() {
        Bench b = new Bench(2);
        b.hear(Harness.nodes(4));
        // DOWN, with VIAS of a call before.
        b.h.call().call(2, 4, 1, 3);
        b.hearResponse(4, Harness.DM, 1);
        b.h.letter(2, 4, 1);
        b.dueLink(14, 4, 1, 0, 0, 0, 1500, 1, 0, 0, 0, 0, 0, 1, 0, 2, -1, -1);
        b.dueStation(1, 2);
        // CALLING, UP and LEAVING: it is not CALLED.
        b.h.letter(2, 4, 1);
        b.due(14, 4, 13, 2);
        b.dueStation(1, 2);
        b.h.call().leave(2, 4);
        b.h.letter(2, 4, 1);
        b.dueLink(14, 4, 3, 0, 0, 0, 1500, 1, 0, 0, 0, 0, 0, 3, 0, 2);
        b.dueStation(1, 3);
        b.hearCommand(4, Harness.SABM, 129);
        b.due(14, 4, 0, 2);
        b.h.letter(2, 4, 1);
        b.due(14, 4, 0, 2);
        b.due(14, 4, 13, 129);
    }

    /** "PACKETS, at most 6"; "or is LOST, if there are 6" */
    private static void packetsOf6() {
        Bench b = new Bench(2);
        b.hear(Harness.nodes(4));
        for (int i = 1; i <= 8; i++) {
            Harness.due(14, "letter " + i, b.h.letter(2, 4, i), i - 1);
            b.due(14, 4, 11, Math.min(i, 6));
            b.dueStation(9, Math.max(0, i - 6));
        }
        // When it is UP they go, the first one first, and make room.
        b.hearResponse(4, Harness.UA, 1);
        b.due(14, 4, 11, 5);
        b.dueLast(14, 2, Harness.command(2, 4, 0, 1, 207, 2, 4, 7, 0, 1));
        b.h.letter(2, 4, 9);
        b.due(14, 4, 11, 6);
        b.dueStation(9, 2);
        b.h.letter(2, 4, 10);
        b.due(14, 4, 11, 6);
        b.dueStation(9, 3);
    }

    /** "or is LOST, if there are 6": a PACKET that comes by a LINK */
    private static void packetsOf6OnTheWay() {
        Bench b = new Bench(2).unheard();
        b.h.call().tune(2, 4, 20000);
        b.up(4);
        b.hear(Harness.nodes(0));
        for (int i = 0; i < 8; i++) {
            b.hearCommand(4, packet(i, 4, 0, 5, i, 65));
            b.due(14, 0, 11, Math.min(i + 1, 6));
            b.dueStation(9, Math.max(0, i - 5));
            b.due(14, 4, 3, (i + 1) % 8);
        }
    }

    /** "NONE without one." */
    private static void takeWithoutOne() {
        Harness h = new Harness();
        for (int s : new int[] {LOW, -1, 0, 5, 6, HIGH}) {
            Harness.due(15, "take(" + s + ")", h.call().take(s), -1);
        }
        h.letter(0, 0, 88);
        Harness.due(15, "take(1)", h.call().take(1), -1);
        Harness.due(15, "take(0)", h.call().take(0), 0);
        Harness.due(15, "take(0) again", h.call().take(0), -1);
        Harness.dueRow(15, "the OUT that stays", h.out(), Harness.bytes(88));
    }

    /** "256 * its origin + its NUMBER" */
    private static void takeByOriginAndNumber() {
        int[][] due = {{0, 0, 0}, {0, 255, 255}, {1, 0, 256}, {5, 0, 1280}, {5, 255, 1535}};
        for (int[] d : due) {
            Bench b = new Bench(2);
            b.up(4);
            b.hearCommand(4, packet(0, d[0], 2, 1, d[1], 65));
            Harness.due(15, "take(2) of origin " + d[0] + ", NUMBER " + d[1], b.h.call().take(2), d[2]);
        }
    }
}
