import java.util.ArrayList;
import java.util.Arrays;
import java.util.List;

/**
 * Boundary cases of the forms that part III tells: which FRAMES are BAD. Each is TAKEN by station 2, to which it need
 * not be. A method for each sentence, which stands above it.
 */
public final class FormEdgesTest {
    private static final int[] MARKED = {Harness.DISC, 5};
    private static final String NODES = "NODES ";
    private static final String FIELD = "FIELD ";

    private static Bench bench = new Bench(2);
    private static int bad = 0;

    public static void main(String[] args) {
        controlsWithAMark();
        controlsWithInformation();
        markAloneBehind();
        informationOf1To16();
        byte240Or207();
        nodesOf0To5();
        nodesOfStations0To5();
        nodesByTheirHead();
        nodesAreACommandWithoutVias();
        nodesAsToAlone();
        namesOfSixLetters();
        seventhByte();
        lastAddressAlone();
        noneToTwoVias();
        commandOrResponse();
        allDifferent();
        notEvenAddresses();
        badForAllThatTakeIt();
        badChangesNothing();
        Harness.finish();
    }

    /** Whether a FRAME is BAD; a new bench is made when the calls of one come to an end. */
    private static void due(String what, int[] frame, boolean isBad) {
        if (bench.h.left() < 20) {
            bench = new Bench(2);
            bad = 0;
        }
        bench.hear(frame);
        int now = bench.h.station(2, 8);
        Harness.due(19, "BAD: " + what + ", " + Arrays.toString(frame), now - bad, isBad ? 1 : 0);
        bad = now;
    }

    private static int[] station(int k, int more) {
        return Harness.stationAddress(k, more);
    }

    /** From 4 to 3. */
    private static int[] frame(boolean command, int... rest) {
        return Harness.frame(4, 3, command, new int[0], rest);
    }

    /** "SABM 47 + N, DISC 67 + N (COMMANDS), DM 15 + N, UA 99 + N (RESPONSES); RR 1 .., RNR 5 .., REJ 9 + N + 32 * r" */
    private static void controlsWithAMark() {
        List<Integer> commands = new ArrayList<>(List.of(47, 63, 67, 83));
        List<Integer> responses = new ArrayList<>(List.of(15, 31, 99, 115));
        for (int r = 0; r <= 7; r++) {
            for (int n = 0; n <= 16; n += 16) {
                List<Integer> either = List.of(1 + n + 32 * r, 5 + n + 32 * r, 9 + n + 32 * r);
                commands.addAll(either);
                responses.addAll(either);
            }
        }
        for (int control = 0; control <= 255; control++) {
            due("CONTROL " + control + " in a COMMAND", frame(true, control, 5), !commands.contains(control));
            due("CONTROL " + control + " in a RESPONSE", frame(false, control, 5), !responses.contains(control));
        }
    }

    /** "I 2 * t + N + 32 * r (COMMAND): the MARK, a BYTE 240 or 207, and 1 to 16 BYTES." */
    private static void controlsWithInformation() {
        for (int control = 0; control <= 255; control++) {
            due("CONTROL " + control + " in an I", frame(true, control, 5, 240, 1), control % 2 == 1);
            due("CONTROL " + control + " in an I, RESPONSE", frame(false, control, 5, 240, 1), true);
        }
    }

    /** "a BYTE behind, the MARK" */
    private static void markAloneBehind() {
        for (int control : new int[] {47, 83, 15, 115, 1, 21, 233}) {
            boolean command = control != 15 && control != 115;
            due("no MARK", frame(command, control), true);
            due("a MARK of 0", frame(command, control, 0), false);
            due("a MARK of 255", frame(command, control, 255), false);
            due("a BYTE more", frame(command, control, 5, 0), true);
            due("as in an I", frame(command, control, 5, 240, 1), true);
        }
    }

    /** "and 1 to 16 BYTES" */
    private static void informationOf1To16() {
        for (int content : new int[] {240, 207}) {
            for (int count : new int[] {0, 1, 2, 15, 16, 17, 18}) {
                int[] rest = Harness.join(Harness.bytes(2, 5, content), Harness.row(count, 250));
                due("an I with " + count, frame(true, rest), count < 1 || count > 16);
                int[] byVias = Harness.frame(4, 3, true, Harness.bytes(0, 1), rest);
                due("an I by two VIAS with " + count, byVias, count < 1 || count > 16);
            }
        }
        due("an I of CONTROL alone", frame(true, 2), true);
        due("an I of CONTROL and MARK", frame(true, 2, 5), true);
        due("the longest FRAME", frame(true, Harness.join(Harness.bytes(2, 5, 240), new int[73])), true);
    }

    /** "a BYTE 240 or 207" */
    private static void byte240Or207() {
        for (int content : new int[] {0, 1, 206, 207, 208, 239, 240, 241, 255}) {
            due("an I with " + content, frame(true, 0, 5, content, 1), content != 207 && content != 240);
        }
    }

    private static int[] triples(int m) {
        int[] all = new int[3 * m];
        for (int i = 0; i < m; i++) {
            all[3 * i] = i % 6;
            all[3 * i + 2] = 200;
        }
        return all;
    }

    /** "and 3 * m BYTES, m 0 .. 5" */
    private static void nodesOf0To5() {
        for (int m = 0; m <= 7; m++) {
            due("NODES with " + m, Harness.nodes(4, triples(m)), m > 5);
            due("NODES with a BYTE more than " + m, Harness.nodes(4, Harness.join(triples(m), new int[1])), true);
            due("NODES with two BYTES more than " + m, Harness.nodes(4, Harness.join(triples(m), new int[2])), true);
        }
        due("the longest FRAME to NODES", Harness.nodes(4, new int[72]), true);
    }

    /** "d, b, q, d and b 0 .. 5" */
    private static void nodesOfStations0To5() {
        for (int v : new int[] {0, 5, 6, 7, 128, 255}) {
            due("NODES with d " + v, Harness.nodes(4, v, 1, 1), v > 5);
            due("NODES with b " + v, Harness.nodes(4, 1, v, 1), v > 5);
            due("NODES with q " + v, Harness.nodes(4, 1, 1, v), false);
            due("NODES with a last d " + v, Harness.nodes(4, Harness.join(triples(4), Harness.bytes(v, 1, 1))), v > 5);
            due("NODES with a last b " + v, Harness.nodes(4, Harness.join(triples(4), Harness.bytes(1, v, 1))), v > 5);
        }
    }

    /** "To NODES .. 3: 207, 255" */
    private static void nodesByTheirHead() {
        int[] who = Harness.join(Harness.address(NODES, 224), station(4, 1));
        due("NODES", Harness.join(who, Harness.bytes(3, 207, 255)), false);
        due("NODES without 255", Harness.join(who, Harness.bytes(3, 207)), true);
        due("NODES without 207", Harness.join(who, Harness.bytes(3)), true);
        for (int control = 0; control <= 255; control++) {
            due("NODES with CONTROL " + control, Harness.join(who, Harness.bytes(control, 207, 255)), control != 3);
        }
        for (int v : new int[] {0, 206, 208, 240, 254, 255}) {
            due("NODES with " + v + ", 255", Harness.join(who, Harness.bytes(3, v, 255)), true);
            due("NODES with 207, " + v, Harness.join(who, Harness.bytes(3, 207, v)), v != 255);
        }
        due("NODES with an I", Harness.join(who, Harness.bytes(0, 5, 240, 1)), true);
        due("NODES with a DISC", Harness.join(who, MARKED), true);
        due("a station with what is for NODES", frame(true, 3, 207, 255), true);
    }

    /** "To NODES (COMMAND, no VIAS)" */
    private static void nodesAreACommandWithoutVias() {
        int[] rest = {3, 207, 255};
        due("a COMMAND", Harness.join(Harness.address(NODES, 224), station(4, 1), rest), false);
        due("a RESPONSE", Harness.join(Harness.address(NODES, 96), station(4, 129), rest), true);
        due("neither", Harness.join(Harness.address(NODES, 96), station(4, 1), rest), true);
        due("both", Harness.join(Harness.address(NODES, 224), station(4, 129), rest), true);
        due("a VIA", Harness.join(Harness.address(NODES, 224), station(4, 0), station(1, 1), rest), true);
        due("a VIA that is REPEATED", Harness.join(Harness.address(NODES, 224), station(4, 0), station(1, 129), rest), true);
        due("two VIAS", Harness.join(Harness.address(NODES, 224), station(4, 0), station(1, 128), station(0, 129), rest),
                true);
    }

    /** "NODES (as TO alone): .., and 96" */
    private static void nodesAsToAlone() {
        due("as FROM", Harness.join(station(3, 128), Harness.address(NODES, 97), MARKED), true);
        due("as a VIA", Harness.join(station(3, 128), station(4, 0), Harness.address(NODES, 97), MARKED), true);
        due("as a second VIA",
                Harness.join(station(3, 128), station(4, 0), station(1, 0), Harness.address(NODES, 97), MARKED), true);
        due("as TO and FROM", Harness.join(Harness.address(NODES, 224), Harness.address(NODES, 97), Harness.bytes(3, 207, 255)),
                true);
        for (int seventh : new int[] {94, 95, 97, 98, 106, 64, 32, 0}) {
            due("with " + seventh, Harness.join(Harness.address(NODES, seventh + 128 & 255), station(4, 1),
                    Harness.bytes(3, 207, 255)), true);
        }
    }

    /** "of a station k twice the codes of "FIELD " (six letters, the last one a blank)"; "twice those of "NODES "" */
    private static void namesOfSixLetters() {
        for (int at = 0; at < 6; at++) {
            for (int by : new int[] {1, 2, 64, 128}) {
                for (int address = 0; address < 4; address++) {
                    int[] row = Harness.frame(4, 3, true, Harness.bytes(1, 0), MARKED);
                    row[7 * address + at] ^= by;
                    due("letter " + at + " of ADDRESS " + address, row, true);
                }
                int[] nodes = Harness.nodes(4);
                nodes[at] ^= by;
                due("letter " + at + " of NODES", nodes, true);
            }
        }
        due("with all letters right", Harness.frame(4, 3, true, Harness.bytes(1, 0), MARKED), false);
        due("another name", Harness.join(Harness.address("FIELDS", 128 + 102), station(4, 1), MARKED), true);
        due("small letters", Harness.join(Harness.address("field ", 128 + 102), station(4, 1), MARKED), true);
    }

    /** "and 96 + 2 * k": stations 0 .. 5, in each of the ADDRESSES */
    private static void seventhByte() {
        for (int k = 0; k <= 15; k++) {
            int o = k == 0 ? 1 : 0;
            int[] of = Harness.address(FIELD, 96 + 2 * k & 127);
            int[] more = of.clone();
            more[6] += 128;
            int[] last = of.clone();
            last[6] += 1;
            boolean isBad = k > 5;
            due("TO " + k, Harness.join(more, station(o, 1), MARKED), isBad);
            due("FROM " + k, Harness.join(station(o, 128), last, MARKED), isBad);
            int p = k == 2 ? 3 : 2;
            due("VIA " + k, Harness.join(station(o, 128), station(p, 0), last, MARKED), isBad);
            int q = k == 4 ? 5 : 4;
            due("first VIA " + k, Harness.join(station(o, 128), station(p, 0), of, station(q, 1), MARKED), isBad);
            due("second VIA " + k, Harness.join(station(o, 128), station(p, 0), station(q, 0), last, MARKED), isBad);
        }
        // Below 96, by k or by the bits of 96 themselves.
        for (int seventh : new int[] {95, 94, 92, 64 + 6, 32 + 6, 6, 0}) {
            due("TO with " + seventh, Harness.join(Harness.address(FIELD, 128 + seventh), station(4, 1), MARKED), true);
            due("FROM with " + seventh, Harness.join(station(3, 128), Harness.address(FIELD, seventh | 1), MARKED), true);
        }
    }

    /** "To the seventh comes 1 in the last ADDRESS alone" */
    private static void lastAddressAlone() {
        for (int vias = 0; vias <= 2; vias++) {
            int[] row = Harness.frame(4, 3, true, Arrays.copyOf(Harness.bytes(1, 0), vias), MARKED);
            due("1 in the last of " + (2 + vias), row, false);
            for (int address = 0; address < 2 + vias; address++) {
                int[] turned = row.clone();
                turned[7 * address + 6] ^= 1;
                due("1 turned in ADDRESS " + address + " of " + (2 + vias), turned, true);
            }
        }
        due("1 in TO, and what would do as an I behind it",
                Harness.join(station(3, 129), Harness.bytes(0, 5, 240), Harness.row(12, 1)), true);
    }

    /** "and none to two VIAS" */
    private static void noneToTwoVias() {
        int[][] vias = {{}, {1}, {1, 0}, {1, 0, 5}, {1, 0, 5, 2}};
        for (int[] v : vias) {
            due(v.length + " VIAS", Harness.frame(4, 3, true, v, MARKED), v.length > 2);
        }
        due("three VIAS, all REPEATED", Harness.join(station(3, 128), station(4, 0), station(1, 128), station(0, 128),
                station(5, 129), MARKED), true);
    }

    /** "and 128: of TO in a COMMAND, of FROM in a RESPONSE" */
    private static void commandOrResponse() {
        for (int[] rest : new int[][] {{Harness.RR, 5}, {Harness.REJ + 16, 5}}) {
            due("of TO", Harness.join(station(3, 128), station(4, 1), rest), false);
            due("of FROM", Harness.join(station(3, 0), station(4, 129), rest), false);
            due("of both", Harness.join(station(3, 128), station(4, 129), rest), true);
            due("of neither", Harness.join(station(3, 0), station(4, 1), rest), true);
            // Of a VIA it is something else.
            due("of a VIA alone", Harness.join(station(3, 0), station(4, 0), station(1, 129), rest), true);
            due("of TO and a VIA", Harness.join(station(3, 128), station(4, 0), station(1, 129), rest), false);
        }
    }

    /** "and those whose FROM, TO and VIAS are not all different stations" */
    private static void allDifferent() {
        for (int a = 0; a < 4; a++) {
            for (int b = a + 1; b < 4; b++) {
                int[] who = {3, 4, 1, 0};
                who[b] = who[a];
                int[] row = Harness.frame(who[1], who[0], true, Harness.bytes(who[2], who[3]), MARKED);
                due("ADDRESS " + a + " and " + b + " of four are the same", row, true);
                if (b < 3) {
                    row = Harness.frame(who[1], who[0], true, Harness.bytes(who[2]), MARKED);
                    due("ADDRESS " + a + " and " + b + " of three are the same", row, true);
                }
                // Whether it is REPEATED makes no difference.
                row = Harness.frame(who[1], who[0], true, Harness.bytes(who[2], who[3]), MARKED);
                row[20] |= 128;
                row[27] |= 128;
                due("ADDRESS " + a + " and " + b + " of four are the same, REPEATED", row, true);
            }
        }
        due("FROM and TO are the same", Harness.frame(3, 3, true, new int[0], MARKED), true);
        due("all different", Harness.frame(4, 3, true, Harness.bytes(1, 0), MARKED), false);
        due("from s to NODES", Harness.nodes(2), false);
    }

    /** "All others are BAD" */
    private static void notEvenAddresses() {
        due("15 BYTES", Harness.row(15, 0), true);
        due("90 BYTES", Harness.row(90, 0), true);
        due("zeros", new int[16], true);
        due("ADDRESSES alone", Harness.join(station(3, 128), station(4, 0), station(1, 1)), true);
        due("four ADDRESSES alone", Harness.join(station(3, 128), station(4, 0), station(1, 0), station(0, 1)), true);
        due("ADDRESSES that break off", Harness.join(station(3, 128), station(4, 0), Harness.bytes(140, 146, 138)), true);
        // What would be an I, a NODES or a DISC if ADDRESSES were none, or TO alone.
        for (int high : new int[] {6, 13}) {
            int[] row = Harness.join(Harness.bytes(0, 5, 240), Harness.row(13, 0));
            row[high] = 128;
            due("an I without ADDRESSES", row, true);
            row = Harness.join(station(3, 0), Harness.bytes(0, 5, 240), Harness.row(10, 0));
            row[high] |= 128;
            due("an I behind TO", row, true);
        }
    }

    /** "All others are BAD, when they are TAKEN": by each station at which one ARRIVES. */
    private static void badForAllThatTakeIt() {
        Harness h = new Harness();
        h.call().tune(1, 0, 256);
        h.raw(1, frame(true, 99, 5));
        Harness.due(17, "run", h.run(400), 5);
        h.raw(1, frame(false, 99, 5));
        Harness.due(17, "run", h.run(400), 5);
        for (int s = 0; s < 6; s++) {
            Harness.due(19, "BAD at " + s, h.station(s, 8), s == 1 ? 0 : 1);
            Harness.due(19, "ARRIVED at " + s, h.station(s, 6), s == 1 ? 0 : 2);
            Harness.due(19, "LOST at " + s, h.station(s, 9), 0);
        }
    }

    /** "TAKEN by a station s (if it is not BAD)": nothing is repeated, ANSWERED or learned. */
    private static void badChangesNothing() {
        Bench b = new Bench(2);
        b.up(4);
        int[][] bads = {
            Harness.join(Harness.frame(4, 3, true, Harness.bytes(2), MARKED), new int[1]),
            Harness.join(Harness.command(4, 2, Harness.DISC, 129), new int[1]),
            Harness.command(4, 2, Harness.DM, 129),
            Harness.response(4, 2, Harness.DISC, 129),
            Harness.response(4, 2, 0, 129, 240, 1),
            Harness.command(4, 2, 0, 129, 239, 1),
            Harness.command(4, 2, 0, 129, 240),
            Harness.nodes(4, 6, 1, 200),
            Harness.nodes(4, 1, 1)};
        for (int[] row : bads) {
            b.hear(row);
        }
        b.dueStation(8, bads.length);
        b.dueStation(1, 1);
        b.dueLink(20, 4, 2, 0, 0, 0, 0, 0, 0, 0, 0, 0, 0, 0, 0, 129, -1, -1);
        Harness.due(21, "route(2, 4, 4, 0)", b.h.call().route(2, 4, 4, 0), 0);
        Harness.due(21, "route(2, 1, 4, 0)", b.h.call().route(2, 1, 4, 0), 0);
    }
}
