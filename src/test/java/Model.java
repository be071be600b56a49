import java.util.ArrayList;
import java.util.Arrays;
import java.util.List;

/**
 * The document once more, in the slowest, plainest way: lists of numbers, whole rows of bits made ahead, every LINK
 * looked at in every TICK. ModelTest compares the two. It has the program's author, so it shows slips of the program,
 * but not where both misread the document.
 */
final class Model {
    private static final int NONE = -1;

    private static final class St {
        int me;
        int last;
        int ones;
        boolean open;
        List<Integer> row = new ArrayList<>();
        int[] arrived;
        int level;
        List<int[]> queue = new ArrayList<>();
        int chance = 80;
        int slot = 20;
        int lead = 2;
        int draw;
        int t = 1500;
        int path = 192;
        int every;
        int rate;
        int seed;
        int wait;
        boolean[] hears = new boolean[6];
        boolean sending;
        boolean carrier;
        List<Integer> toSend = new ArrayList<>();
        int[] current;
        int had;
        boolean endedNow;
        int gone;
        int arrivals;
        int strays;
        int bad;
        int lost;
        int letters;
        List<int[]> mailbox = new ArrayList<>();
        Ln[] links = new Ln[6];
        int[][] quality = new int[6][6];
        int[][] age = new int[6][6];
    }

    private static final class Ln {
        St s;
        int o;
        String mode = "DOWN";
        List<Integer> vias = new ArrayList<>();
        int mark;
        int vs;
        int va;
        int vr;
        int clock;
        int tries;
        boolean polls;
        boolean rejects;
        boolean held;
        List<Integer> outbox = new ArrayList<>();
        List<int[]> packets = new ArrayList<>();
        List<int[]> sent = new ArrayList<>();
        List<Integer> inbox = new ArrayList<>();
        int calls;
        int seen;

        boolean busy() {
            return inbox.size() > 48;
        }
    }

    private final St[] all = new St[6];
    private List<Integer> tape = new ArrayList<>();
    private List<Integer> outRow = new ArrayList<>();
    private int time;
    private int arrivedInAll;

    Model() {
        for (int i = 0; i < 6; i++) {
            St s = new St();
            s.me = i;
            s.draw = i + 1;
            for (int j = 0; j < 6; j++) {
                s.hears[j] = j != i;
                if (j != i) {
                    s.links[j] = new Ln();
                    s.links[j].s = s;
                    s.links[j].o = j;
                }
            }
            all[i] = s;
        }
    }

    // ---- I. Frames and bits

    static int check(int[] frame) {
        int c = 65535;
        for (int b : frame) {
            for (int i = 0; i < 8; i++) {
                boolean differs = c % 2 != (b >> i) % 2;
                c = c / 2;
                if (differs) {
                    c = c ^ 33800;
                }
            }
        }
        return 65535 - c;
    }

    static List<Integer> flag() {
        return Arrays.asList(0, 1, 1, 1, 1, 1, 1, 0);
    }

    static List<Integer> bitsOf(int[] frame) {
        int[] whole = Arrays.copyOf(frame, frame.length + 2);
        int check = check(frame);
        whole[frame.length] = check % 256;
        whole[frame.length + 1] = check / 256;
        StringBuilder text = new StringBuilder();
        for (int b : whole) {
            for (int i = 0; i < 8; i++) {
                text.append((b >> i) % 2);
            }
        }
        List<Integer> stuffed = new ArrayList<>();
        for (char c : text.toString().replace("11111", "111110").toCharArray()) {
            stuffed.add(c - '0');
        }
        return stuffed;
    }

    private void hear(St r, int level) {
        int bit = level == r.last ? 1 : 0;
        r.last = level;
        if (bit == 1) {
            r.ones++;
            if (r.ones >= 7) {
                r.open = false;
            } else {
                toRow(r, 1);
            }
            return;
        }
        if (r.ones == 6) {
            if (r.open) {
                r.arrived = frameIn(r.row);
            }
            r.open = true;
            r.row.clear();
        } else if (r.ones != 5) {
            toRow(r, 0);
        }
        r.ones = 0;
    }

    private static void toRow(St r, int bit) {
        if (!r.open) {
            return;
        }
        r.row.add(bit);
        if (r.row.size() == 744) {
            r.open = false;
        }
    }

    private static int[] frameIn(List<Integer> row) {
        int length = row.size() - 7;
        for (int n = 17; n <= 92; n++) {
            if (length == 8 * n) {
                int[] got = new int[n];
                for (int i = 0; i < length; i++) {
                    got[i / 8] += row.get(i) << i % 8;
                }
                int[] frame = Arrays.copyOf(got, n - 2);
                return check(frame) == got[n - 2] + 256 * got[n - 1] ? frame : null;
            }
        }
        return null;
    }

    // ---- II. The channel

    static int hash(int a, int b) {
        int h = a * 1000003 + b;
        h = (h ^ (h >>> 15)) * 1540483477;
        return h ^ (h >>> 13);
    }

    private void enqueue(St s, int[] frame) {
        if (s.queue.size() >= 12) {
            s.lost++;
        } else {
            s.queue.add(frame);
        }
    }

    private void tick() {
        time++;
        for (St s : all) {
            if (!s.sending && !s.queue.isEmpty() && !s.carrier) {
                if (s.wait > 0) {
                    s.wait--;
                } else {
                    s.draw = s.draw * 1103515245 + 12345;
                    if ((s.draw >>> 24) < s.chance) {
                        s.sending = true;
                        s.had = 0;
                        s.current = null;
                        s.toSend.clear();
                        for (int i = 0; i < s.lead; i++) {
                            s.toSend.addAll(flag());
                        }
                    } else {
                        s.wait = s.slot;
                    }
                }
            }
        }
        for (St s : all) {
            s.endedNow = false;
            if (s.sending) {
                sendOne(s);
            }
        }
        for (St s : all) {
            listen(s);
        }
        for (St s : all) {
            if (s.arrived != null) {
                taken(s, s.arrived);
                s.arrived = null;
            }
        }
        for (St s : all) {
            for (int o = 0; o < 6; o++) {
                if (o != s.me && s.links[o].clock > 0) {
                    s.links[o].clock--;
                    if (s.links[o].clock == 0) {
                        clockEnds(s.links[o]);
                    }
                }
            }
        }
        for (St s : all) {
            if (s.every > 0 && time % s.every == 0) {
                beaconOf(s);
            }
        }
        for (St s : all) {
            for (int o = 0; o < 6; o++) {
                if (o != s.me && s.links[o].mode.equals("UP")) {
                    mayBeSaid(s.links[o]);
                }
            }
        }
    }

    private void sendOne(St s) {
        if (s.toSend.isEmpty()) {
            if (!s.queue.isEmpty() && s.had < 4) {
                s.current = s.queue.remove(0);
                s.gone++;
                s.had++;
                s.toSend.addAll(bitsOf(s.current));
                s.toSend.addAll(flag());
            } else {
                s.sending = false;
                return;
            }
        }
        int bit = s.toSend.remove(0);
        if (bit == 0) {
            s.level = 1 - s.level;
        }
        s.endedNow = s.toSend.isEmpty() && s.current != null;
    }

    private void listen(St s) {
        s.carrier = false;
        int level = 0;
        boolean known = false;
        for (St o : all) {
            s.carrier = s.carrier || !s.sending && s.hears[o.me] && o.sending;
        }
        if (!s.carrier) {
            s.open = false;
            s.ones = 0;
            return;
        }
        for (St o : all) {
            if (s.hears[o.me] && o.sending) {
                level ^= o.level;
            }
        }
        if (hash(s.seed, time) >>> 20 < s.rate) {
            level ^= 1;
        }
        hear(s, level);
        if (s.arrived == null) {
            return;
        }
        s.arrivals++;
        arrivedInAll++;
        for (St o : all) {
            known = known || s.hears[o.me] && o.sending && o.endedNow && Arrays.equals(o.current, s.arrived);
        }
        if (!known) {
            s.strays++;
        }
    }

    // ---- III. Links

    private static final String FIELD = "FIELD ";

    private static int[] name(String six) {
        int[] codes = new int[6];
        for (int i = 0; i < 6; i++) {
            codes[i] = 2 * six.charAt(i);
        }
        return codes;
    }

    private static int[] build(int from, int to, List<Integer> vias, boolean command, int... rest) {
        List<Integer> row = new ArrayList<>();
        List<Integer> who = new ArrayList<>(Arrays.asList(to, from));
        who.addAll(vias);
        for (int i = 0; i < who.size(); i++) {
            for (int b : name(FIELD)) {
                row.add(b);
            }
            int seventh = 96 + 2 * who.get(i) + (i == who.size() - 1 ? 1 : 0);
            row.add(seventh + (command && i == 0 || !command && i == 1 ? 128 : 0));
        }
        for (int b : rest) {
            row.add(b);
        }
        return ints(row);
    }

    private static int[] ints(List<Integer> row) {
        int[] array = new int[row.size()];
        for (int i = 0; i < array.length; i++) {
            array[i] = row.get(i);
        }
        return array;
    }

    private void said(Ln l, boolean command, int control, int... more) {
        int[] rest = new int[2 + more.length];
        rest[0] = control;
        rest[1] = l.mark;
        System.arraycopy(more, 0, rest, 2, more.length);
        enqueue(l.s, build(l.s.me, l.o, l.vias, command, rest));
    }

    /** What a FRAME is, or BAD: its station numbers and parts by name. */
    private static final class Parts {
        List<Integer> who = new ArrayList<>();
        List<Boolean> high = new ArrayList<>();
        boolean toNodes;
        boolean command;
        String kind = "BAD";
        int n;
        int r;
        int t;
        int mark;
        int pid;
        int[] rest = new int[0];
    }

    private static Parts parts(int[] f) {
        Parts p = new Parts();
        int at = 0;
        boolean more = true;
        while (more) {
            if (at + 7 > f.length || p.who.size() == 4) {
                return p;
            }
            int[] six = Arrays.copyOfRange(f, at, at + 6);
            int seventh = f[at + 6];
            boolean high = seventh >= 128;
            seventh -= high ? 128 : 0;
            more = seventh % 2 == 0;
            seventh -= more ? 0 : 1;
            boolean nodes = Arrays.equals(six, name("NODES ")) && seventh == 96 && at == 0;
            boolean station = Arrays.equals(six, name(FIELD)) && seventh >= 96 && seventh <= 106;
            if (!nodes && !station) {
                return p;
            }
            p.toNodes = p.toNodes || nodes;
            p.who.add(nodes ? 99 : (seventh - 96) / 2);
            p.high.add(high);
            at += 7;
        }
        boolean twice = false;
        for (int i = 0; i < p.who.size(); i++) {
            twice = twice || p.who.lastIndexOf(p.who.get(i)) != i;
        }
        if (p.who.size() < 2 || twice || p.high.get(0).equals(p.high.get(1)) || at >= f.length) {
            return p;
        }
        p.command = p.high.get(0);
        body(p, Arrays.copyOfRange(f, at, f.length));
        return p;
    }

    private static void body(Parts p, int[] b) {
        int c = b[0];
        if (p.toNodes) {
            boolean fits = p.command && p.who.size() == 2 && c == 3 && b.length >= 3 && b[1] == 207 && b[2] == 255
                    && (b.length - 3) % 3 == 0 && (b.length - 3) / 3 <= 5;
            for (int i = 3; fits && i < b.length; i += 3) {
                fits = b[i] <= 5 && b[i + 1] <= 5;
            }
            if (fits) {
                p.kind = "NODES";
                p.rest = Arrays.copyOfRange(b, 3, b.length);
            }
            return;
        }
        for (int n = 0; n <= 16; n += 16) {
            if (b.length == 2) {
                one(p, "SABM", c == 47 + n && p.command, n, 0, 0);
                one(p, "DISC", c == 67 + n && p.command, n, 0, 0);
                one(p, "DM", c == 15 + n && !p.command, n, 0, 0);
                one(p, "UA", c == 99 + n && !p.command, n, 0, 0);
            }
            for (int r = 0; r < 8; r++) {
                if (b.length == 2) {
                    one(p, "RR", c == 1 + n + 32 * r, n, r, 0);
                    one(p, "RNR", c == 5 + n + 32 * r, n, r, 0);
                    one(p, "REJ", c == 9 + n + 32 * r, n, r, 0);
                }
                for (int t = 0; t < 8; t++) {
                    boolean length = b.length >= 4 && b.length <= 19 && (b[2] == 240 || b[2] == 207);
                    one(p, "I", length && c == 2 * t + n + 32 * r && p.command, n, r, t);
                }
            }
        }
        if (!p.kind.equals("BAD")) {
            p.mark = b[1];
        }
        if (p.kind.equals("I")) {
            p.pid = b[2];
            p.rest = Arrays.copyOfRange(b, 3, b.length);
        }
    }

    private static void one(Parts p, String kind, boolean is, int n, int r, int t) {
        if (is) {
            p.kind = kind;
            p.n = n;
            p.r = r;
            p.t = t;
        }
    }

    private void taken(St s, int[] f) {
        Parts p = parts(f);
        if (p.kind.equals("BAD")) {
            s.bad++;
            return;
        }
        for (int i = 2; i < p.who.size(); i++) {
            if (!p.high.get(i)) {
                if (p.who.get(i) == s.me) {
                    int[] copy = f.clone();
                    copy[7 * i + 6] += 128;
                    enqueue(s, copy);
                }
                return;
            }
        }
        int from = p.who.get(1);
        if (p.toNodes) {
            if (from != s.me) {
                heardNodes(s, from, p.rest);
            }
            return;
        }
        if (p.who.get(0) == s.me) {
            takenByLink(s.links[from], p);
        }
    }

    private void answered(Ln l, Parts p, int control) {
        enqueue(l.s, build(l.s.me, p.who.get(1), backwards(p), false, control + p.n, p.mark));
    }

    private static List<Integer> backwards(Parts p) {
        List<Integer> vias = new ArrayList<>();
        for (int i = p.who.size() - 1; i >= 2; i--) {
            vias.add(p.who.get(i));
        }
        return vias;
    }

    private static void atFirst(Ln l) {
        l.mode = "DOWN";
        l.vs = 0;
        l.va = 0;
        l.vr = 0;
        l.clock = 0;
        l.tries = 0;
        l.polls = false;
        l.rejects = false;
        l.held = false;
        l.outbox.clear();
        l.sent.clear();
    }

    private static void down(Ln l) {
        atFirst(l);
        l.packets.clear();
    }

    private static void cleared(Ln l) {
        atFirst(l);
        l.inbox.clear();
    }

    private void called(Ln l) {
        l.calls = (l.calls + 1) % 128;
        cleared(l);
        l.mark = l.s.me > l.o ? l.calls + 128 : l.calls;
        l.mode = "CALLING";
        l.tries = 1;
        l.clock = l.s.t;
        said(l, true, 47 + 16);
    }

    private void sabm(Ln l, Parts p) {
        int n = l.o > l.s.me ? p.mark - 128 : p.mark;
        if (n < 0 || n > 127) {
            return;
        }
        if (p.mark == l.mark) {
            answered(l, p, l.mode.equals("UP") ? 99 : 15);
            return;
        }
        int d = Math.floorMod(n - l.seen, 128);
        if (d == 0 || d > 63) {
            return;
        }
        l.seen = n;
        if (l.mode.equals("CALLING") && l.s.me < l.o) {
            answered(l, p, 15);
            return;
        }
        cleared(l);
        l.mark = p.mark;
        l.vias = backwards(p);
        l.mode = "UP";
        answered(l, p, 99);
    }

    private void takenByLink(Ln l, Parts p) {
        String k = p.kind;
        if (k.equals("SABM")) {
            sabm(l, p);
            return;
        }
        if (p.mark != l.mark || l.mode.equals("DOWN")) {
            if (p.command) {
                answered(l, p, 15);
            }
            return;
        }
        if (l.mode.equals("CALLING")) {
            if (k.equals("UA")) {
                l.mode = "UP";
                l.clock = 0;
                l.tries = 0;
            }
            if (k.equals("DM")) {
                down(l);
            }
            return;
        }
        if (l.mode.equals("LEAVING")) {
            if (k.equals("UA") || k.equals("DM")) {
                down(l);
            }
            if (k.equals("DISC")) {
                said(l, false, 99 + p.n);
            }
            return;
        }
        if (k.equals("DISC")) {
            said(l, false, 99 + p.n);
            down(l);
        } else if (k.equals("DM")) {
            down(l);
        } else if (!k.equals("UA")) {
            numbered(l, p);
        }
    }

    private void numbered(Ln l, Parts p) {
        if (Math.floorMod(p.r - l.va, 8) > Math.floorMod(l.vs - l.va, 8)) {
            said(l, false, 15);
            down(l);
            return;
        }
        boolean went = false;
        while (l.va != p.r) {
            l.sent.remove(0);
            l.va = (l.va + 1) % 8;
            went = true;
        }
        if (went) {
            l.tries = 0;
            l.clock = l.s.t;
            if (l.sent.isEmpty() && !l.polls) {
                l.clock = 0;
            }
        }
        if (p.kind.equals("I")) {
            information(l, p);
            return;
        }
        l.held = p.kind.equals("RNR");
        if (!p.command && p.n == 16 && l.polls) {
            l.polls = false;
            l.tries = 0;
            l.clock = 0;
            again(l);
        } else if (p.kind.equals("REJ") && !l.polls) {
            again(l);
        }
        if (p.command && p.n == 16) {
            said(l, false, (l.busy() ? 5 : 1) + 16 + 32 * l.vr);
        }
    }

    private void again(Ln l) {
        if (!l.sent.isEmpty()) {
            l.clock = l.s.t;
            if (!l.held) {
                int t = l.va;
                for (int[] content : l.sent) {
                    said(l, true, 2 * t + 32 * l.vr, content);
                    t = (t + 1) % 8;
                }
            }
        }
    }

    private void information(Ln l, Parts p) {
        if (p.t == l.vr) {
            if (l.busy()) {
                said(l, false, 5 + p.n + 32 * l.vr);
                return;
            }
            l.vr = (l.vr + 1) % 8;
            l.rejects = false;
            if (p.pid == 240) {
                for (int b : p.rest) {
                    l.inbox.add(b);
                }
            } else {
                packet(l.s, p.rest);
            }
            said(l, false, (l.busy() ? 5 : 1) + p.n + 32 * l.vr);
        } else if (!l.rejects) {
            said(l, false, 9 + p.n + 32 * l.vr);
            l.rejects = true;
        }
    }

    private void clockEnds(Ln l) {
        if (l.tries == 6) {
            if (l.mode.equals("UP")) {
                said(l, false, 15);
            }
            down(l);
            return;
        }
        l.tries++;
        l.clock = l.s.t;
        switch (l.mode) {
            case "CALLING":
                said(l, true, 47 + 16);
                break;
            case "LEAVING":
                said(l, true, 67 + 16);
                break;
            default:
                said(l, true, (l.busy() ? 5 : 1) + 16 + 32 * l.vr);
                l.polls = true;
                break;
        }
    }

    private void mayBeSaid(Ln l) {
        if (!l.polls && !l.held && l.sent.size() < 4 && l.s.queue.size() < 8) {
            int[] content = null;
            if (!l.packets.isEmpty()) {
                int[] packet = l.packets.remove(0);
                content = new int[packet.length + 1];
                content[0] = 207;
                System.arraycopy(packet, 0, content, 1, packet.length);
            } else if (!l.outbox.isEmpty()) {
                List<Integer> row = new ArrayList<>();
                row.add(240);
                while (row.size() < 17 && !l.outbox.isEmpty()) {
                    row.add(l.outbox.remove(0));
                }
                content = ints(row);
            }
            if (content != null) {
                said(l, true, 2 * l.vs + 32 * l.vr, content);
                l.sent.add(content);
                l.vs = (l.vs + 1) % 8;
                if (l.clock == 0) {
                    l.clock = l.s.t;
                }
            }
        }
        boolean something = !l.outbox.isEmpty() || !l.packets.isEmpty() || !l.sent.isEmpty();
        if (l.held && l.clock == 0 && something) {
            l.clock = l.s.t;
        }
    }

    // ---- IV. Routes and letters

    private static int bestOf(St s, int d) {
        int greatest = 0;
        for (int n = 0; n < 6; n++) {
            greatest = Math.max(greatest, s.quality[d][n]);
        }
        for (int n = 0; n < 6; n++) {
            if (greatest >= 10 && s.quality[d][n] == greatest) {
                return n;
            }
        }
        return NONE;
    }

    private int beaconOf(St s) {
        for (int d = 0; d < 6; d++) {
            for (int n = 0; n < 6; n++) {
                if (s.quality[d][n] > 0) {
                    s.age[d][n]--;
                    if (s.age[d][n] == 0) {
                        s.quality[d][n] = 0;
                    }
                }
            }
        }
        List<Integer> row = new ArrayList<>();
        for (int b : name("NODES ")) {
            row.add(b);
        }
        row.add(96 + 128);
        for (int b : name(FIELD)) {
            row.add(b);
        }
        row.add(96 + 2 * s.me + 1);
        row.addAll(Arrays.asList(3, 207, 255));
        int told = 0;
        for (int d = 0; d < 6; d++) {
            int n = bestOf(s, d);
            if (n != NONE) {
                told++;
                row.addAll(Arrays.asList(d, n, s.quality[d][n]));
            }
        }
        enqueue(s, ints(row));
        return told;
    }

    private static void heardNodes(St s, int n, int[] rest) {
        s.quality[n][n] = s.path;
        s.age[n][n] = 5;
        for (int i = 0; i < rest.length; i += 3) {
            int d = rest[i];
            if (d != s.me) {
                s.quality[d][n] = rest[i + 1] == s.me ? 0 : (rest[i + 2] * s.path + 128) / 256;
                s.age[d][n] = 5;
            }
        }
    }

    private void packet(St s, int[] p) {
        if (p.length < 5 || p.length > 16 || p[0] > 5 || p[1] > 5) {
            s.bad++;
        } else if (p[1] == s.me) {
            if (s.mailbox.size() < 8) {
                s.mailbox.add(p);
            } else {
                s.lost++;
            }
        } else if (p[2] == 0 || bestOf(s, p[1]) == NONE) {
            s.lost++;
        } else {
            Ln l = s.links[bestOf(s, p[1])];
            if (l.mode.equals("DOWN")) {
                l.vias = new ArrayList<>();
                called(l);
            }
            if (l.packets.size() == 6) {
                s.lost++;
            } else {
                int[] copy = p.clone();
                copy[2]--;
                l.packets.add(copy);
            }
        }
    }

    // ---- The calls

    private St st(int k) {
        return k < 0 || k > 5 ? null : all[k];
    }

    private Ln ln(int s, int o) {
        return st(s) == null || st(o) == null || s == o ? null : all[s].links[o];
    }

    private int[] lookAtTape() {
        int[] row = ints(tape);
        tape.clear();
        return row;
    }

    private void putOut(int[] row) {
        outRow = new ArrayList<>();
        for (int b : row) {
            outRow.add(b);
        }
    }

    boolean feed(int... five) {
        if (tape.size() > 240) {
            return false;
        }
        for (int v : five) {
            tape.addAll(Arrays.asList(v >>> 24, v >>> 16 & 255, v >>> 8 & 255, v & 255));
        }
        return true;
    }

    boolean end(int n) {
        if (n < 0 || n > tape.size()) {
            return false;
        }
        tape = new ArrayList<>(tape.subList(0, n));
        return true;
    }

    int out(int i) {
        return i < 0 || i >= outRow.size() ? NONE : outRow.get(i);
    }

    int bits(int level) {
        int[] frame = lookAtTape();
        if (frame.length < 15 || frame.length > 90 || level < 0 || level > 1) {
            return NONE;
        }
        List<Integer> row = new ArrayList<>(flag());
        row.addAll(flag());
        row.addAll(bitsOf(frame));
        row.addAll(flag());
        outRow = new ArrayList<>();
        int now = level;
        for (int bit : row) {
            now = bit == 0 ? 1 - now : now;
            outRow.add(now);
        }
        return outRow.size();
    }

    int unbits() {
        St ear = new St();
        int count = 0;
        for (int b : lookAtTape()) {
            for (int i = 0; i < 8; i++) {
                ear.arrived = null;
                hear(ear, (b >> i) % 2);
                if (ear.arrived != null) {
                    count++;
                    putOut(ear.arrived);
                }
            }
        }
        return count;
    }

    boolean hears(int a, int b, boolean on) {
        if (ln(a, b) == null) {
            return false;
        }
        all[a].hears[b] = on;
        return true;
    }

    private static boolean in(int v, int low, int high) {
        return low <= v && v <= high;
    }

    boolean tune(int station, int what, int v) {
        St s = st(station);
        if (s == null) {
            return false;
        }
        switch (what) {
            case 0: s.chance = in(v, 0, 256) ? v : s.chance; return in(v, 0, 256);
            case 1: s.slot = in(v, 1, 200) ? v : s.slot; return in(v, 1, 200);
            case 2: s.lead = in(v, 1, 16) ? v : s.lead; return in(v, 1, 16);
            case 3: s.draw = v; return true;
            case 4: s.t = in(v, 100, 20000) ? v : s.t; return in(v, 100, 20000);
            case 5: s.path = in(v, 1, 255) ? v : s.path; return in(v, 1, 255);
            case 6:
                boolean fits = v == 0 || in(v, 200, 20000);
                s.every = fits ? v : s.every;
                return fits;
            case 7: s.rate = in(v, 0, 4096) ? v : s.rate; return in(v, 0, 4096);
            case 8: s.seed = v; return true;
            default: return false;
        }
    }

    boolean raw(int station) {
        int[] frame = lookAtTape();
        St s = st(station);
        if (s == null || frame.length < 15 || frame.length > 90 || s.queue.size() == 12) {
            return false;
        }
        s.queue.add(frame);
        return true;
    }

    boolean call(int s, int o, int v, int w) {
        Ln l = ln(s, o);
        if (l == null || !l.mode.equals("DOWN") || v == NONE && w != NONE) {
            return false;
        }
        List<Integer> who = new ArrayList<>(Arrays.asList(s, o));
        List<Integer> vias = new ArrayList<>();
        for (int k : new int[] {v, w}) {
            if (k != NONE) {
                if (st(k) == null || who.contains(k)) {
                    return false;
                }
                who.add(k);
                vias.add(k);
            }
        }
        l.vias = vias;
        called(l);
        return true;
    }

    boolean leave(int s, int o) {
        Ln l = ln(s, o);
        if (l == null || l.mode.equals("DOWN") || l.mode.equals("LEAVING")) {
            return false;
        }
        atFirst(l);
        l.mode = "LEAVING";
        l.tries = 1;
        l.clock = l.s.t;
        said(l, true, 67 + 16);
        return true;
    }

    int give(int s, int o) {
        int[] row = lookAtTape();
        Ln l = ln(s, o);
        if (l == null) {
            return NONE;
        }
        if (!l.mode.equals("UP")) {
            return -3;
        }
        if (l.outbox.size() + row.length > 200) {
            return -2;
        }
        for (int b : row) {
            l.outbox.add(b);
        }
        return l.outbox.size();
    }

    int read(int s, int o, int n) {
        Ln l = ln(s, o);
        if (l == null || !in(n, 1, 64)) {
            return NONE;
        }
        boolean was = l.busy();
        List<Integer> row = new ArrayList<>();
        while (row.size() < n && !l.inbox.isEmpty()) {
            row.add(l.inbox.remove(0));
        }
        outRow = row;
        if (was && !l.busy() && l.mode.equals("UP")) {
            said(l, false, 1 + 32 * l.vr);
        }
        return row.size();
    }

    int letter(int s, int destination) {
        int[] text = lookAtTape();
        if (st(s) == null || st(destination) == null || text.length < 1 || text.length > 12) {
            return NONE;
        }
        int number = all[s].letters++ % 256;
        int[] packet = new int[text.length + 4];
        packet[0] = s;
        packet[1] = destination;
        packet[2] = 8;
        packet[3] = number;
        System.arraycopy(text, 0, packet, 4, text.length);
        packet(all[s], packet);
        return number;
    }

    int take(int station) {
        St s = st(station);
        if (s == null || s.mailbox.isEmpty()) {
            return NONE;
        }
        int[] packet = s.mailbox.remove(0);
        putOut(Arrays.copyOfRange(packet, 4, packet.length));
        return 256 * packet[0] + packet[3];
    }

    int beacon(int station) {
        return st(station) == null ? NONE : beaconOf(all[station]);
    }

    int run(int n) {
        if (!in(n, 1, 1000)) {
            return NONE;
        }
        arrivedInAll = 0;
        for (int i = 0; i < n; i++) {
            tick();
        }
        return arrivedInAll;
    }

    int time() {
        return time;
    }

    int station(int station, int what) {
        St s = st(station);
        if (s == null || !in(what, 0, 10)) {
            return NONE;
        }
        int[] answers = {s.sending ? 1 : 0, s.queue.size(), s.carrier ? 1 : 0, s.level, s.wait, s.gone, s.arrivals,
            s.strays, s.bad, s.lost, s.mailbox.size()};
        return answers[what];
    }

    int link(int s, int o, int what) {
        Ln l = ln(s, o);
        if (l == null || !in(what, 0, 15)) {
            return NONE;
        }
        int[] answers = {Arrays.asList("DOWN", "CALLING", "UP", "LEAVING").indexOf(l.mode), l.vs, l.va, l.vr, l.clock,
            l.tries, l.polls ? 1 : 0, l.rejects ? 1 : 0, l.held ? 1 : 0, l.outbox.size(), l.inbox.size(),
            l.packets.size(), l.sent.size(), l.mark, l.vias.size() > 0 ? l.vias.get(0) : NONE,
            l.vias.size() > 1 ? l.vias.get(1) : NONE};
        return answers[what];
    }

    int route(int station, int d, int n, int what) {
        if (ln(station, d) == null || ln(station, n) == null || !in(what, 0, 1)) {
            return NONE;
        }
        St s = all[station];
        return what == 0 ? s.quality[d][n] : s.quality[d][n] == 0 ? 0 : s.age[d][n];
    }

    int best(int station, int d) {
        return ln(station, d) == null ? NONE : bestOf(all[station], d);
    }

    int queued(int station, int k, int i) {
        St s = st(station);
        if (s == null || k < 0 || k >= s.queue.size() || i < 0 || i >= s.queue.get(k).length) {
            return NONE;
        }
        return s.queue.get(k)[i];
    }
}
