/**
 * Six radio stations on one channel, TICK by TICK.
 * Words in capitals are terms of the document (../shared/DOC.md).
 *
 * <p>All memory is made in constructors and used again, so that a call makes no object.
 */
public final class PacketField {
    public static final int NONE = -1;
    public static final int FULL = -2;
    public static final int STATE = -3;

    private static final int STATIONS = 6;

    private static final int DOWN = 0;
    private static final int CALLING = 1;
    private static final int UP = 2;
    private static final int LEAVING = 3;

    // The kind of a FRAME is its CONTROL without N, r and t.
    private static final int INFORMATION = 0;
    private static final int RR = 1;
    private static final int NODES = 3;
    private static final int RNR = 5;
    private static final int REJ = 9;
    private static final int DM = 15;
    private static final int SABM = 47;
    private static final int DISC = 67;
    private static final int UA = 99;
    private static final int POLL = 16;

    private static final int OF_OUTBOX = 240;
    private static final int OF_PACKETS = 207;

    // What tune() tells, by its number there.
    private static final int CHANCE = 0;
    private static final int SLOT = 1;
    private static final int LEAD = 2;
    private static final int DRAW = 3;
    private static final int T = 4;
    private static final int PATH = 5;
    private static final int EVERY = 6;
    private static final int RATE = 7;
    private static final int SEED = 8;
    private static final int LOWEST = 0x80000000;
    private static final int HIGHEST = 0x7fffffff;
    private static final int[] LEAST = {0, 1, 1, LOWEST, 100, 1, 200, 0, LOWEST};
    private static final int[] MOST = {256, 200, 16, HIGHEST, 20000, 255, 20000, 4096, HIGHEST};

    private static final int FRAME_LEAST = 15;
    private static final int FRAME_MOST = 90;
    private static final int TAPE_MOST = 260;
    /** Three FLAGS, 92 BYTES, and a 0 behind each five of their 736 bits. */
    private static final int LEVELS_MOST = 24 + 736 + 147;
    private static final int QUEUE_MOST = 12;
    private static final int MAILBOX_MOST = 8;
    private static final int PACKETS_MOST = 6;
    private static final int SENT_MOST = 4;
    private static final int OUTBOX_MOST = 200;
    private static final int INBOX_MOST = 64;
    private static final int INBOX_BUSY = 48;
    private static final int INFORMATION_MOST = 16;
    private static final int PACKET_HEAD = 4;
    private static final int TEXT_MOST = 12;
    private static final int QUEUE_FOR_SPEAKING = 8;
    private static final int FRAMES_AT_ONCE = 4;
    private static final int TRIES_MOST = 6;
    private static final int AGE_AT_FIRST = 5;
    private static final int QUALITY_LEAST = 10;
    private static final int LIFE_AT_FIRST = 8;

    /** Twice the codes of "FIELD ". */
    private static final int[] STATION_NAME = {140, 146, 138, 152, 136, 64};
    /** Twice the codes of "NODES ". */
    private static final int[] NODES_NAME = {156, 158, 136, 138, 166, 64};
    private static final int SEVENTH = 96;
    /** Stands for NODES among the numbers of stations. */
    private static final int BROADCAST = 6;

    private final Station[] stations;
    private final Bytes tape;
    private final Bytes outRow;
    /** For bits() and unbits(), which have nothing to do with a station. */
    private final Sender ownSender;
    private final Receiver ownReceiver;
    private final Bytes ownPacket;
    /** The FRAME that is being TAKEN. */
    private final Frame taken;
    private int ticks;
    // Of the TICK that is going on, a bit for each station: who is SENDING, whose LEVEL is 1,
    // and who has just sent the last bit of the FLAG behind a FRAME.
    private int onAir;
    private int levels;
    private int ended;

    public PacketField() {
        stations = new Station[STATIONS];
        for (int s = 0; s < STATIONS; s++) {
            Station station = new Station(s);
            for (int o = 0; o < STATIONS; o++) {
                if (o != s) {
                    station.links[o] = new Link(station, o);
                }
            }
            stations[s] = station;
        }
        tape = new Bytes(TAPE_MOST);
        outRow = new Bytes(LEVELS_MOST);
        ownSender = new Sender();
        ownReceiver = new Receiver();
        ownPacket = new Bytes(INFORMATION_MOST);
        taken = new Frame();
    }

    public boolean feed(int a, int b, int c, int d, int e) {
        if (tape.size + 20 > TAPE_MOST) {
            return false;
        }
        tape.addNumber(a);
        tape.addNumber(b);
        tape.addNumber(c);
        tape.addNumber(d);
        tape.addNumber(e);
        return true;
    }

    public boolean end(int n) {
        if (n < 0 || n > tape.size) {
            return false;
        }
        tape.size = n;
        return true;
    }

    public int out(int i) {
        return outRow.at(i);
    }

    public int bits(int level) {
        boolean fits = isFrame(tape) && (level == 0 || level == 1);
        if (fits) {
            outRow.clear();
            ownSender.level = level;
            ownSender.startFlags(2);
            putLevels();
            ownSender.startFrame(tape);
            putLevels();
        }
        tape.clear();
        return fits ? outRow.size : NONE;
    }

    public int unbits() {
        int arrived = 0;
        ownReceiver.restart();
        for (int i = 0; i < 8 * tape.size; i++) {
            if (ownReceiver.hear(tape.at(i >> 3) >> (i & 7) & 1)) {
                arrived++;
            }
        }
        if (arrived > 0) {
            putOut(ownReceiver.frame, 0, ownReceiver.frame.size);
        }
        tape.clear();
        return arrived;
    }

    public boolean hears(int a, int b, boolean on) {
        Station s = stationAt(a);
        if (s == null || !isStation(b) || a == b) {
            return false;
        }
        s.hearing = on ? s.hearing | (1 << b) : s.hearing & ~(1 << b);
        return true;
    }

    public boolean tune(int station, int what, int v) {
        Station s = stationAt(station);
        if (s == null || !isSetting(what, v)) {
            return false;
        }
        s.settings[what] = v;
        return true;
    }

    public boolean raw(int station) {
        Station s = stationAt(station);
        Bytes row = s != null && isFrame(tape) ? s.queue.addRow() : null;
        if (row != null) {
            row.addFrom(tape, 0, tape.size);
        }
        tape.clear();
        return row != null;
    }

    public boolean call(int s, int o, int v, int w) {
        Link l = linkAt(s, o);
        if (l == null || l.mode != DOWN || !areVias(s, o, v, w)) {
            return false;
        }
        l.path.firstVia = v;
        l.path.secondVia = w;
        callOther(l);
        return true;
    }

    public boolean leave(int s, int o) {
        Link l = linkAt(s, o);
        if (l == null || l.mode != CALLING && l.mode != UP) {
            return false;
        }
        l.restart(LEAVING);
        l.tries = 1;
        l.clock = l.owner.settings[T];
        say(l.owner, l.path, DISC + POLL, true);
        return true;
    }

    public int give(int s, int o) {
        int answer = giveTape(linkAt(s, o));
        tape.clear();
        return answer;
    }

    public int read(int s, int o, int n) {
        Link l = linkAt(s, o);
        if (l == null || n < 1 || n > INBOX_MOST) {
            return NONE;
        }
        boolean wasBusy = l.isBusy();
        int count = Math.min(n, l.inbox.size);
        putOut(l.inbox, 0, count);
        l.inbox.dropFirst(count);
        if (wasBusy && !l.isBusy() && l.mode == UP) {
            sayReady(l, 0, false);
        }
        return count;
    }

    public int letter(int s, int destination) {
        Station from = stationAt(s);
        boolean fits = from != null && isStation(destination) && tape.size >= 1 && tape.size <= TEXT_MOST;
        int number = fits ? from.letters & 255 : NONE;
        if (fits) {
            from.letters++;
            ownPacket.clear();
            ownPacket.add(s);
            ownPacket.add(destination);
            ownPacket.add(LIFE_AT_FIRST);
            ownPacket.add(number);
            ownPacket.addFrom(tape, 0, tape.size);
            receivePacket(from, ownPacket, 0);
        }
        tape.clear();
        return number;
    }

    public int take(int station) {
        Station s = stationAt(station);
        Bytes packet = s == null ? null : s.mailbox.rowAt(0);
        if (packet == null) {
            return NONE;
        }
        putOut(packet, PACKET_HEAD, packet.size - PACKET_HEAD);
        s.mailbox.dropFirst(1);
        return 256 * packet.at(0) + packet.at(3);
    }

    public int beacon(int station) {
        Station s = stationAt(station);
        return s == null ? NONE : tellRoutes(s);
    }

    public int run(int n) {
        if (n < 1 || n > 1000) {
            return NONE;
        }
        int arrived = 0;
        for (int i = 0; i < n; i++) {
            ticks++;
            drawForChannel();
            sendBits();
            int arrivals = hearLevels();
            arrived += Integer.bitCount(arrivals);
            for (int k = 0; k < STATIONS && arrivals != 0; k++) {
                if ((arrivals >> k & 1) != 0) {
                    takeFrame(stations[k]);
                }
            }
            turnClocks();
            tellRoutesInTime();
            sayWhatMayBeSaid();
        }
        return arrived;
    }

    public int time() {
        return ticks;
    }

    public int station(int station, int what) {
        Station s = stationAt(station);
        if (s == null) {
            return NONE;
        }
        switch (what) {
            case 0: return s.sender.sending ? 1 : 0;
            case 1: return s.queue.count;
            case 2: return s.carrier ? 1 : 0;
            case 3: return s.sender.level;
            case 4: return s.wait;
            case 5: return s.gone;
            case 6: return s.arrived;
            case 7: return s.strays;
            case 8: return s.bad;
            case 9: return s.lost;
            case 10: return s.mailbox.count;
            default: return NONE;
        }
    }

    public int link(int s, int o, int what) {
        Link l = linkAt(s, o);
        if (l == null) {
            return NONE;
        }
        switch (what) {
            case 0: return l.mode;
            case 1: return l.vs;
            case 2: return l.va;
            case 3: return l.vr;
            case 4: return l.clock;
            case 5: return l.tries;
            case 6: return l.polls ? 1 : 0;
            case 7: return l.rejects ? 1 : 0;
            case 8: return l.held ? 1 : 0;
            case 9: return l.outbox.size;
            case 10: return l.inbox.size;
            case 11: return l.packets.count;
            case 12: return l.sent.count;
            case 13: return l.path.mark;
            case 14: return l.path.firstVia;
            case 15: return l.path.secondVia;
            default: return NONE;
        }
    }

    public int route(int station, int d, int n, int what) {
        Station s = stationAt(station);
        if (s == null || !isStation(d) || !isStation(n) || d == station || n == station) {
            return NONE;
        }
        switch (what) {
            case 0: return s.routes.qualityOf(d, n);
            case 1: return s.routes.ageOf(d, n);
            default: return NONE;
        }
    }

    public int best(int station, int d) {
        Station s = stationAt(station);
        return s == null ? NONE : s.routes.bestTo(d);
    }

    public int queued(int station, int k, int i) {
        Station s = stationAt(station);
        Bytes row = s == null ? null : s.queue.rowAt(k);
        return row == null ? NONE : row.at(i);
    }

    // ---- What the calls share

    private static boolean isStation(int k) {
        return k >= 0 && k < STATIONS;
    }

    private static boolean isFrame(Bytes row) {
        return row.size >= FRAME_LEAST && row.size <= FRAME_MOST;
    }

    private static boolean isSetting(int what, int v) {
        if (what < 0 || what >= LEAST.length || what >= MOST.length) {
            return false;
        }
        return v >= LEAST[what] && v <= MOST[what] || what == EVERY && v == 0;
    }

    private static boolean areVias(int s, int o, int v, int w) {
        if (v == NONE) {
            return w == NONE;
        }
        if (!isStation(v) || v == s || v == o) {
            return false;
        }
        return w == NONE || isStation(w) && w != s && w != o && w != v;
    }

    private Station stationAt(int k) {
        return isStation(k) ? stations[k] : null;
    }

    private Link linkAt(int s, int o) {
        Station station = stationAt(s);
        return station == null ? null : station.linkTo(o);
    }

    private void putOut(Bytes row, int start, int count) {
        outRow.clear();
        outRow.addFrom(row, start, count);
    }

    private void putLevels() {
        for (int i = 0; i < LEVELS_MOST && !ownSender.isThrough(); i++) {
            ownSender.sendBit();
            outRow.add(ownSender.level);
        }
    }

    private int giveTape(Link l) {
        if (l == null) {
            return NONE;
        }
        if (l.mode != UP) {
            return STATE;
        }
        if (l.outbox.size + tape.size > OUTBOX_MOST) {
            return FULL;
        }
        l.outbox.addFrom(tape, 0, tape.size);
        return l.outbox.size;
    }

    // ---- The channel: steps 2 to 4 of a TICK

    private void drawForChannel() {
        for (int k = 0; k < STATIONS; k++) {
            Station s = stations[k];
            if (s.queue.count > 0 && !s.sender.sending && !s.carrier) {
                waitOrDraw(s);
            }
        }
    }

    private static void waitOrDraw(Station s) {
        if (s.wait > 0) {
            s.wait--;
            return;
        }
        int draw = s.settings[DRAW] * 1103515245 + 12345;
        s.settings[DRAW] = draw;
        if (draw >>> 24 < s.settings[CHANCE]) {
            s.sender.sending = true;
            s.sender.had = 0;
            s.sender.startFlags(s.settings[LEAD]);
        } else {
            s.wait = s.settings[SLOT];
        }
    }

    private void sendBits() {
        onAir = 0;
        levels = 0;
        ended = 0;
        for (int k = 0; k < STATIONS; k++) {
            Station s = stations[k];
            if (s.sender.sending) {
                sendNext(s);
            }
        }
    }

    private void sendNext(Station s) {
        Sender sender = s.sender;
        if (sender.isThrough()) {
            Bytes next = sender.had < FRAMES_AT_ONCE ? s.queue.rowAt(0) : null;
            if (next == null) {
                sender.sending = false;
                return;
            }
            sender.startFrame(next);
            sender.had++;
            s.queue.dropFirst(1);
            s.gone++;
        }
        sender.sendBit();
        onAir |= 1 << s.number;
        levels |= sender.level << s.number;
        if (sender.endsFrame()) {
            ended |= 1 << s.number;
        }
    }

    /** Tells by a bit for each station where a FRAME has ARRIVED. */
    private int hearLevels() {
        int arrivals = 0;
        for (int k = 0; k < STATIONS; k++) {
            Station s = stations[k];
            int heard = s.sender.sending ? 0 : s.hearing & onAir;
            s.carrier = heard != 0;
            if (heard == 0) {
                s.receiver.hearNothing();
            } else if (s.receiver.hear(levelOf(s, heard))) {
                arrivals |= 1 << k;
                s.arrived++;
                if (isStray(s.receiver.frame, heard & ended)) {
                    s.strays++;
                }
            }
        }
        return arrivals;
    }

    private int levelOf(Station s, int heard) {
        int level = Integer.bitCount(heard & levels) & 1;
        boolean noise = s.settings[RATE] > 0 && hash(s.settings[SEED], ticks) >>> 20 < s.settings[RATE];
        return noise ? 1 - level : level;
    }

    private static int hash(int a, int b) {
        int h = a * 1000003 + b;
        h = (h ^ (h >>> 15)) * 1540483477;
        return h ^ (h >>> 13);
    }

    private boolean isStray(Bytes frame, int senders) {
        for (int k = 0; k < STATIONS; k++) {
            if ((senders >> k & 1) != 0 && stations[k].sender.hasSent(frame)) {
                return false;
            }
        }
        return true;
    }

    // ---- Links: what is TAKEN

    private void takeFrame(Station s) {
        Bytes bytes = s.receiver.frame;
        if (!taken.understand(bytes)) {
            s.bad++;
            return;
        }
        if (taken.nextVia != NONE) {
            repeat(s, bytes);
            return;
        }
        if (taken.kind == NODES) {
            if (taken.from != s.number) {
                s.routes.learn(taken.from, s.settings[PATH], bytes, taken.start);
            }
            return;
        }
        Link l = s.linkTo(taken.from);
        if (taken.to != s.number || l == null) {
            return;
        }
        if (taken.kind == SABM) {
            takeSabm(l);
        } else if (taken.answer.mark != l.path.mark || l.mode == DOWN) {
            if (taken.command) {
                answer(s, DM);
            }
        } else if (l.mode == UP) {
            takeWhileUp(l);
        } else {
            takeWhileWaiting(l);
        }
    }

    private void repeat(Station s, Bytes bytes) {
        if (taken.viaAt(bytes) != s.number) {
            return;
        }
        Bytes row = s.queue.addRow();
        if (row == null) {
            s.lost++;
            return;
        }
        row.addFrom(bytes, 0, bytes.size);
        row.raise(taken.nextVia + 6, 128);
    }

    private void takeSabm(Link l) {
        Station s = l.owner;
        int mark = taken.answer.mark;
        boolean callerAbove = l.other > s.number;
        if (callerAbove != (mark >= 128)) {
            return;
        }
        if (mark == l.path.mark) {
            answer(s, l.mode == UP ? UA : DM);
            return;
        }
        int n = mark & 127;
        int ahead = (n - l.seen) & 127;
        if (ahead < 1 || ahead > 63) {
            return;
        }
        l.seen = n;
        if (l.mode == CALLING && s.number < l.other) {
            answer(s, DM);
            return;
        }
        l.restart(UP);
        l.inbox.clear();
        l.path.become(taken.answer);
        answer(s, UA);
    }

    private void takeWhileWaiting(Link l) {
        int kind = taken.kind;
        if (kind == DM || kind == UA && l.mode == LEAVING) {
            l.goDown();
        } else if (kind == UA) {
            l.enter(UP);
            l.clock = 0;
            l.tries = 0;
        } else if (kind == DISC && l.mode == LEAVING) {
            say(l.owner, l.path, UA + taken.pollBit, false);
        }
    }

    private void takeWhileUp(Link l) {
        switch (taken.kind) {
            case DISC:
                say(l.owner, l.path, UA + taken.pollBit, false);
                l.goDown();
                break;
            case DM:
                l.goDown();
                break;
            case UA:
                break;
            case INFORMATION:
                if (acknowledge(l)) {
                    takeInformation(l);
                }
                break;
            default:
                if (acknowledge(l)) {
                    takeSupervision(l);
                }
                break;
        }
    }

    /** Looks at r; false if it can't be, and the LINK is DOWN then. */
    private boolean acknowledge(Link l) {
        int went = (taken.r - l.va) & 7;
        if (went > ((l.vs - l.va) & 7)) {
            say(l.owner, l.path, DM, false);
            l.goDown();
            return false;
        }
        l.sent.dropFirst(went);
        l.va = taken.r;
        if (went > 0) {
            l.tries = 0;
            l.clock = l.sent.count == 0 && !l.polls ? 0 : l.owner.settings[T];
        }
        return true;
    }

    private void takeSupervision(Link l) {
        boolean hasBit = taken.pollBit != 0;
        l.held = taken.kind == RNR;
        if (!taken.command && hasBit && l.polls) {
            l.polls = false;
            l.tries = 0;
            l.clock = 0;
            sayAgain(l);
        } else if (taken.kind == REJ && !l.polls) {
            sayAgain(l);
        }
        if (taken.command && hasBit) {
            sayReady(l, POLL, false);
        }
    }

    private void takeInformation(Link l) {
        if (taken.t != l.vr) {
            if (!l.rejects) {
                say(l.owner, l.path, REJ + taken.pollBit + 32 * l.vr, false);
                l.rejects = true;
            }
            return;
        }
        if (!l.isBusy()) {
            Bytes bytes = l.owner.receiver.frame;
            l.vr = (l.vr + 1) & 7;
            l.rejects = false;
            if (taken.content == OF_PACKETS) {
                receivePacket(l.owner, bytes, taken.start);
            } else {
                l.inbox.addFrom(bytes, taken.start, bytes.size - taken.start);
            }
        }
        sayReady(l, taken.pollBit, false);
    }

    // ---- Links: what is SAID

    /** SAYS a FRAME up to its MARK; null if it is LOST. */
    private static Bytes say(Station s, Path path, int control, boolean command) {
        Bytes row = s.queue.addRow();
        if (row == null) {
            s.lost++;
            return null;
        }
        int fromLast = path.firstVia == NONE ? 1 : 0;
        row.addAddress(STATION_NAME, SEVENTH + 2 * path.to + (command ? 128 : 0));
        row.addAddress(STATION_NAME, SEVENTH + 2 * s.number + (command ? 0 : 128) + fromLast);
        if (path.firstVia != NONE) {
            row.addAddress(STATION_NAME, SEVENTH + 2 * path.firstVia + (path.secondVia == NONE ? 1 : 0));
        }
        if (path.secondVia != NONE) {
            row.addAddress(STATION_NAME, SEVENTH + 2 * path.secondVia + 1);
        }
        row.add(control);
        row.add(path.mark);
        return row;
    }

    private void answer(Station s, int kind) {
        say(s, taken.answer, kind + taken.pollBit, false);
    }

    private static void sayReady(Link l, int pollBit, boolean command) {
        int kind = l.isBusy() ? RNR : RR;
        say(l.owner, l.path, kind + pollBit + 32 * l.vr, command);
    }

    private static void sayInformation(Link l, int t, Bytes content) {
        Bytes row = say(l.owner, l.path, INFORMATION + 2 * t + 32 * l.vr, true);
        if (row != null && content != null) {
            row.addFrom(content, 0, content.size);
        }
    }

    private static void sayAgain(Link l) {
        if (l.sent.count == 0) {
            return;
        }
        l.clock = l.owner.settings[T];
        for (int i = 0; i < l.sent.count && !l.held; i++) {
            sayInformation(l, (l.va + i) & 7, l.sent.rowAt(i));
        }
    }

    private static void callOther(Link l) {
        l.calls = (l.calls + 1) & 127;
        l.restart(CALLING);
        l.inbox.clear();
        l.path.mark = l.calls + (l.owner.number > l.other ? 128 : 0);
        l.tries = 1;
        l.clock = l.owner.settings[T];
        say(l.owner, l.path, SABM + POLL, true);
    }

    private void turnClocks() {
        for (int k = 0; k < STATIONS; k++) {
            Station s = stations[k];
            for (int o = 0; o < STATIONS && s.awake > 0; o++) {
                Link l = s.links[o];
                if (l != null && l.clock > 0) {
                    l.clock--;
                    if (l.clock == 0) {
                        tryAgain(l);
                    }
                }
            }
        }
    }

    private static void tryAgain(Link l) {
        Station s = l.owner;
        if (l.tries >= TRIES_MOST) {
            if (l.mode == UP) {
                say(s, l.path, DM, false);
            }
            l.goDown();
            return;
        }
        l.tries++;
        l.clock = s.settings[T];
        if (l.mode == CALLING) {
            say(s, l.path, SABM + POLL, true);
        } else if (l.mode == LEAVING) {
            say(s, l.path, DISC + POLL, true);
        } else {
            sayReady(l, POLL, true);
            l.polls = true;
        }
    }

    private void sayWhatMayBeSaid() {
        for (int k = 0; k < STATIONS; k++) {
            Station s = stations[k];
            for (int o = 0; o < STATIONS && s.awake > 0; o++) {
                Link l = s.links[o];
                if (l != null && l.mode == UP && l.hasWork()) {
                    sayNext(l);
                }
            }
        }
    }

    private static void sayNext(Link l) {
        if (!l.polls && !l.held && l.owner.queue.count < QUEUE_FOR_SPEAKING) {
            sayContent(l);
        }
        if (l.held && l.clock == 0) {
            l.clock = l.owner.settings[T];
        }
    }

    private static void sayContent(Link l) {
        Bytes packet = l.packets.rowAt(0);
        Bytes content = packet == null && l.outbox.size == 0 ? null : l.sent.addRow();
        if (content == null) {
            return;
        }
        if (packet != null) {
            content.add(OF_PACKETS);
            content.addFrom(packet, 0, packet.size);
            l.packets.dropFirst(1);
        } else {
            int count = Math.min(INFORMATION_MOST, l.outbox.size);
            content.add(OF_OUTBOX);
            content.addFrom(l.outbox, 0, count);
            l.outbox.dropFirst(count);
        }
        sayInformation(l, l.vs, content);
        l.vs = (l.vs + 1) & 7;
        if (l.clock == 0) {
            l.clock = l.owner.settings[T];
        }
    }

    // ---- Routes and letters

    private void tellRoutesInTime() {
        for (int k = 0; k < STATIONS; k++) {
            int every = stations[k].settings[EVERY];
            if (every > 0 && ticks % every == 0) {
                tellRoutes(stations[k]);
            }
        }
    }

    private static int tellRoutes(Station s) {
        s.routes.growOld();
        Bytes row = s.queue.addRow();
        if (row == null) {
            s.lost++;
            return s.routes.countBest();
        }
        row.addAddress(NODES_NAME, SEVENTH + 128);
        row.addAddress(STATION_NAME, SEVENTH + 2 * s.number + 1);
        row.add(NODES);
        row.add(OF_PACKETS);
        row.add(255);
        s.routes.tell(row);
        return s.routes.countBest();
    }

    /** A PACKET, the BYTES of a row from start on, comes to s. */
    private static void receivePacket(Station s, Bytes bytes, int start) {
        int size = bytes.size - start;
        int destination = bytes.at(start + 1);
        if (size <= PACKET_HEAD || size > INFORMATION_MOST || !isStation(bytes.at(start)) || !isStation(destination)) {
            s.bad++;
            return;
        }
        boolean here = destination == s.number;
        int life = bytes.at(start + 2);
        Link l = here || life == 0 ? null : s.linkTo(s.routes.bestTo(destination));
        if (l != null && l.mode == DOWN) {
            l.path.firstVia = NONE;
            l.path.secondVia = NONE;
            callOther(l);
        }
        Bytes row = here ? s.mailbox.addRow() : l == null ? null : l.packets.addRow();
        if (row == null) {
            s.lost++;
            return;
        }
        row.addFrom(bytes, start, size);
        if (!here) {
            row.raise(2, -1);
        }
    }

    private static int checkOf(Bytes row, int count) {
        int c = 65535;
        for (int i = 0; i < 8 * count; i++) {
            int bit = row.at(i >> 3) >> (i & 7) & 1;
            c = (c & 1) == bit ? c >> 1 : (c >> 1) ^ 33800;
        }
        return 65535 - c;
    }

    /** BYTES in a row, at most as many as it is made for. */
    private static final class Bytes {
        final int[] cells;
        int size;

        Bytes(int most) {
            cells = new int[Math.max(0, most)];
        }

        void clear() {
            size = 0;
        }

        int at(int i) {
            return i >= 0 && i < size ? cells[i] : NONE;
        }

        void add(int value) {
            if (size < cells.length) {
                cells[size] = value;
                size++;
            }
        }

        void addNumber(int number) {
            for (int shift = 24; shift >= 0; shift -= 8) {
                add(number >>> shift & 255);
            }
        }

        /** Adds all or nothing. */
        void addFrom(Bytes row, int start, int count) {
            boolean there = start >= 0 && count >= 0 && start + count <= row.size;
            if (there && size + count <= cells.length) {
                System.arraycopy(row.cells, start, cells, size, count);
                size += count;
            }
        }

        /** Writes without add(), to keep calls from going deeper. */
        void addAddress(int[] name, int seventh) {
            if (size + name.length >= cells.length) {
                return;
            }
            for (int i = 0; i < name.length; i++) {
                cells[size + i] = name[i];
            }
            size += name.length;
            cells[size] = seventh;
            size++;
        }

        void raise(int i, int by) {
            if (i >= 0 && i < size) {
                cells[i] += by;
            }
        }

        void dropFirst(int count) {
            int gone = Math.max(0, Math.min(count, size));
            System.arraycopy(cells, gone, cells, 0, size - gone);
            size -= gone;
        }

        boolean isNamed(int start, int[] name) {
            if (start < 0 || start + name.length > size) {
                return false;
            }
            for (int i = 0; i < name.length; i++) {
                if (cells[start + i] != name[i]) {
                    return false;
                }
            }
            return true;
        }
    }

    /** Rows of BYTES that go in the order in which they came. */
    private static final class Rows {
        final Bytes[] rows;
        int first;
        int count;

        Rows(int most, int width) {
            rows = new Bytes[Math.max(1, most)];
            for (int i = 0; i < rows.length; i++) {
                rows[i] = new Bytes(width);
            }
        }

        void clear() {
            count = 0;
        }

        Bytes rowAt(int k) {
            return k >= 0 && k < count ? rows[(first + k) % rows.length] : null;
        }

        /** An empty row behind the last one; null if there is no room. */
        Bytes addRow() {
            if (count >= rows.length) {
                return null;
            }
            Bytes row = rows[(first + count) % rows.length];
            row.size = 0;
            count++;
            return row;
        }

        void dropFirst(int n) {
            int gone = Math.max(0, Math.min(n, count));
            first = (first + gone) % rows.length;
            count -= gone;
        }
    }

    /** Sends FLAGS, or a FRAME's BITS and a FLAG, bit by bit. */
    private static final class Sender {
        /** The FRAME with its CHECK; empty while the first FLAGS are sent. */
        final Bytes content;
        int position;
        int ones;
        int flagBits;
        int level;
        boolean sending;
        /** FRAMES that this SENDING has had. */
        int had;

        Sender() {
            content = new Bytes(FRAME_MOST + 2);
        }

        void startFlags(int count) {
            content.clear();
            position = 0;
            ones = 0;
            flagBits = 8 * count;
        }

        void startFrame(Bytes frame) {
            startFlags(1);
            content.addFrom(frame, 0, frame.size);
            int check = checkOf(frame, frame.size);
            content.add(check & 255);
            content.add(check >> 8);
        }

        boolean isThrough() {
            return flagBits <= 0;
        }

        void sendBit() {
            if (nextBit() == 0) {
                level = 1 - level;
            }
        }

        int nextBit() {
            if (ones == 5) {
                ones = 0;
                return 0;
            }
            if (position < 8 * content.size) {
                int bit = content.at(position >> 3) >> (position & 7) & 1;
                position++;
                ones = bit == 1 ? ones + 1 : 0;
                return bit;
            }
            flagBits--;
            int left = flagBits & 7;
            return left == 7 || left == 0 ? 0 : 1;
        }

        /** Whether the latest bit was the last one of the FLAG behind a FRAME. */
        boolean endsFrame() {
            return flagBits == 0 && content.size > 0;
        }

        boolean hasSent(Bytes frame) {
            if (content.size != frame.size + 2) {
                return false;
            }
            for (int i = 0; i < frame.size; i++) {
                if (content.at(i) != frame.at(i)) {
                    return false;
                }
            }
            return true;
        }
    }

    private static final class Receiver {
        private static final int ROW_MOST = 743;

        /** The ROW's bits, eight in a BYTE. */
        final Bytes row;
        int rowBits;
        boolean open;
        int last;
        int ones;
        /** The FRAME that ARRIVED latest. */
        final Bytes frame;

        Receiver() {
            row = new Bytes((ROW_MOST + 7) / 8);
            frame = new Bytes(FRAME_MOST);
        }

        void restart() {
            last = 0;
            hearNothing();
        }

        void hearNothing() {
            open = false;
            ones = 0;
        }

        /** Whether a FRAME ARRIVES by this level. */
        boolean hear(int level) {
            boolean one = level == last;
            last = level;
            if (one) {
                hearOne();
                return false;
            }
            boolean arrives = false;
            if (ones == 6) {
                arrives = open && holdsFrame();
                open = true;
                rowBits = 0;
                row.clear();
            } else if (ones != 5) {
                addBit(0);
            }
            ones = 0;
            return arrives;
        }

        void hearOne() {
            ones++;
            if (ones >= 7) {
                open = false;
            } else {
                addBit(1);
            }
        }

        void addBit(int bit) {
            if (rowBits >= ROW_MOST) {
                open = false;
            }
            if (!open) {
                return;
            }
            if ((rowBits & 7) == 0) {
                row.add(bit);
            } else {
                row.raise(rowBits >> 3, bit << (rowBits & 7));
            }
            rowBits++;
        }

        boolean holdsFrame() {
            int bits = rowBits - 7;
            if (bits % 8 != 0 || bits < 8 * (FRAME_LEAST + 2) || bits > 8 * (FRAME_MOST + 2)) {
                return false;
            }
            int count = bits / 8 - 2;
            if (row.at(count) + 256 * row.at(count + 1) != checkOf(row, count)) {
                return false;
            }
            frame.clear();
            frame.addFrom(row, 0, count);
            return true;
        }
    }

    /** Where a FRAME of a LINK goes, and its MARK. */
    private static final class Path {
        int to;
        int firstVia = NONE;
        int secondVia = NONE;
        int mark;

        void become(Path other) {
            to = other.to;
            firstVia = other.firstVia;
            secondVia = other.secondVia;
            mark = other.mark;
        }
    }

    /** What a FRAME says that is TAKEN. */
    private static final class Frame {
        int to;
        int from;
        /** How many ADDRESSES there are. */
        int addresses;
        /** Where the first VIA begins that is not REPEATED, or NONE. */
        int nextVia;
        boolean command;
        int kind;
        int pollBit;
        int r;
        int t;
        /** 240 or 207. */
        int content;
        /** Where what is behind that begins. */
        int start;
        /** The way and the MARK of an ANSWER. */
        final Path answer = new Path();

        /** Reads a FRAME; false if it is BAD. */
        boolean understand(Bytes bytes) {
            if (!readAddresses(bytes) || !readDirection(bytes)) {
                return false;
            }
            int control = bytes.at(7 * addresses);
            if (control == NONE) {
                return false;
            }
            if (to == BROADCAST) {
                return readNodes(bytes, control);
            }
            return (control & 1) == 0 ? readInformation(bytes, control) : readOther(bytes, control);
        }

        boolean readAddresses(Bytes bytes) {
            int met = 0;
            boolean last = false;
            addresses = 0;
            nextVia = NONE;
            for (int k = 0; k < 4 && !last; k++) {
                int who = addressAt(bytes, 7 * k);
                if (who == NONE || who == BROADCAST && k > 0 || (met >> who & 1) != 0) {
                    return false;
                }
                met |= 1 << who;
                last = (bytes.at(7 * k + 6) & 1) != 0;
                addresses++;
                if (k >= 2 && nextVia == NONE && bytes.at(7 * k + 6) < 128) {
                    nextVia = 7 * k;
                }
            }
            return last && addresses >= 2;
        }

        /** Reads who says it to whom, and by whom an ANSWER goes. */
        boolean readDirection(Bytes bytes) {
            to = addressAt(bytes, 0);
            from = addressAt(bytes, 7);
            command = bytes.at(6) >= 128;
            answer.to = from;
            answer.firstVia = addresses > 2 ? addressAt(bytes, 7 * addresses - 7) : NONE;
            answer.secondVia = addresses > 3 ? addressAt(bytes, 14) : NONE;
            boolean response = bytes.at(13) >= 128;
            return command != response;
        }

        int addressAt(Bytes bytes, int at) {
            int seventh = bytes.at(at + 6);
            if (seventh == NONE) {
                return NONE;
            }
            int twice = (seventh & 126) - SEVENTH;
            if (twice == 0 && bytes.isNamed(at, NODES_NAME)) {
                return BROADCAST;
            }
            int k = twice / 2;
            return twice >= 0 && isStation(k) && bytes.isNamed(at, STATION_NAME) ? k : NONE;
        }

        int viaAt(Bytes bytes) {
            return addressAt(bytes, nextVia);
        }

        boolean readNodes(Bytes bytes, int control) {
            int at = 7 * addresses;
            kind = NODES;
            start = at + 3;
            int count = bytes.size - start;
            boolean headed = control == NODES && bytes.at(at + 1) == OF_PACKETS && bytes.at(at + 2) == 255;
            if (!command || addresses != 2 || !headed || count % 3 != 0 || count > 15) {
                return false;
            }
            for (int i = start; i < bytes.size; i += 3) {
                if (!isStation(bytes.at(i)) || !isStation(bytes.at(i + 1))) {
                    return false;
                }
            }
            return true;
        }

        boolean readInformation(Bytes bytes, int control) {
            int at = 7 * addresses;
            kind = INFORMATION;
            pollBit = control & POLL;
            r = control >> 5;
            t = control >> 1 & 7;
            answer.mark = bytes.at(at + 1);
            content = bytes.at(at + 2);
            start = at + 3;
            int count = bytes.size - start;
            boolean known = content == OF_OUTBOX || content == OF_PACKETS;
            return command && known && count >= 1 && count <= INFORMATION_MOST;
        }

        boolean readOther(Bytes bytes, int control) {
            int at = 7 * addresses;
            pollBit = control & POLL;
            answer.mark = bytes.at(at + 1);
            if (bytes.size != at + 2) {
                return false;
            }
            kind = control - pollBit;
            if (kind == SABM || kind == DISC) {
                return command;
            }
            if (kind == DM || kind == UA) {
                return !command;
            }
            kind = control & 15;
            r = control >> 5;
            return kind == RR || kind == RNR || kind == REJ;
        }
    }

    /** The LINK at its owner to another station. */
    private static final class Link {
        final Station owner;
        final int other;
        /** VIAS and MARK. */
        final Path path;
        final Bytes outbox;
        final Bytes inbox;
        final Rows packets;
        /** Of each I that is SENT: 240 or 207, and what is behind it. */
        final Rows sent;
        int mode;
        int vs;
        int va;
        int vr;
        int clock;
        int tries;
        boolean polls;
        boolean rejects;
        boolean held;
        int calls;
        int seen;

        Link(Station owner, int other) {
            this.owner = owner;
            this.other = other;
            path = new Path();
            path.to = other;
            outbox = new Bytes(OUTBOX_MOST);
            inbox = new Bytes(INBOX_MOST);
            packets = new Rows(PACKETS_MOST, INFORMATION_MOST);
            sent = new Rows(SENT_MOST, INFORMATION_MOST + 1);
        }

        boolean isBusy() {
            return inbox.size > INBOX_BUSY;
        }

        boolean hasWork() {
            return outbox.size > 0 || packets.count > 0 || sent.count > 0;
        }

        /** All changes of the MODE come by here, so that the owner's count of LINKS holds. */
        void enter(int newMode) {
            if (mode != DOWN) {
                owner.awake--;
            }
            if (newMode != DOWN) {
                owner.awake++;
            }
            mode = newMode;
        }

        /** What DOWN and CLEARED have in common. */
        void restart(int newMode) {
            enter(newMode);
            vs = 0;
            va = 0;
            vr = 0;
            clock = 0;
            tries = 0;
            polls = false;
            rejects = false;
            held = false;
            outbox.clear();
            sent.clear();
        }

        void goDown() {
            restart(DOWN);
            packets.clear();
        }
    }

    /** A station's ROUTES: to d by n. */
    private static final class Routes {
        final int self;
        final int[] qualities;
        final int[] ages;

        Routes(int self) {
            this.self = self;
            qualities = new int[STATIONS * STATIONS];
            ages = new int[STATIONS * STATIONS];
        }

        int qualityOf(int d, int n) {
            return isStation(d) && isStation(n) ? qualities[STATIONS * d + n] : 0;
        }

        int ageOf(int d, int n) {
            return qualityOf(d, n) > 0 ? ages[STATIONS * d + n] : 0;
        }

        void put(int d, int n, int quality) {
            if (isStation(d) && isStation(n)) {
                qualities[STATIONS * d + n] = quality;
                ages[STATIONS * d + n] = AGE_AT_FIRST;
            }
        }

        int bestTo(int d) {
            int best = NONE;
            int greatest = QUALITY_LEAST - 1;
            for (int n = 0; n < STATIONS; n++) {
                if (qualityOf(d, n) > greatest) {
                    best = n;
                    greatest = qualityOf(d, n);
                }
            }
            return best;
        }

        int countBest() {
            int count = 0;
            for (int d = 0; d < STATIONS; d++) {
                if (bestTo(d) != NONE) {
                    count++;
                }
            }
            return count;
        }

        void growOld() {
            for (int i = 0; i < qualities.length && i < ages.length; i++) {
                if (qualities[i] > 0) {
                    ages[i]--;
                    if (ages[i] == 0) {
                        qualities[i] = 0;
                    }
                }
            }
        }

        void tell(Bytes row) {
            for (int d = 0; d < STATIONS; d++) {
                int best = bestTo(d);
                if (best != NONE) {
                    row.add(d);
                    row.add(best);
                    row.add(qualityOf(d, best));
                }
            }
        }

        void learn(int n, int path, Bytes bytes, int start) {
            put(n, n, path);
            for (int i = start; i + 2 < bytes.size; i += 3) {
                int d = bytes.at(i);
                int q = bytes.at(i + 2);
                if (d != self) {
                    put(d, n, bytes.at(i + 1) == self ? 0 : (q * path + 128) / 256);
                }
            }
        }
    }

    private static final class Station {
        final int number;
        final int[] settings;
        final Sender sender;
        final Receiver receiver;
        final Rows queue;
        final Rows mailbox;
        final Link[] links;
        final Routes routes;
        /** A bit for each station that it hears. */
        int hearing;
        int wait;
        boolean carrier;
        /** How many of its LINKS are not DOWN: without one, a TICK passes them over. */
        int awake;
        int letters;
        int gone;
        int arrived;
        int strays;
        int bad;
        int lost;

        Station(int number) {
            this.number = number;
            settings = new int[LEAST.length];
            settings[CHANCE] = 80;
            settings[SLOT] = 20;
            settings[LEAD] = 2;
            settings[DRAW] = number + 1;
            settings[T] = 1500;
            settings[PATH] = 192;
            sender = new Sender();
            receiver = new Receiver();
            queue = new Rows(QUEUE_MOST, FRAME_MOST);
            mailbox = new Rows(MAILBOX_MOST, INFORMATION_MOST);
            links = new Link[STATIONS];
            routes = new Routes(number);
            hearing = ((1 << STATIONS) - 1) & ~(1 << number);
        }

        Link linkTo(int o) {
            return o >= 0 && o < links.length ? links[o] : null;
        }
    }
}
