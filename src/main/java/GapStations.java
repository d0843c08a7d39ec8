/**
 * Assigns channels to stations on a plane, by rules that tell how far apart in channels those near
 * each other must be.
 */
public final class GapStations {
    public static final int NONE = -1, BAD = -2, STATE = -3, FULL = -4;
    public static final long NO = Long.MIN_VALUE;

    private static final int ABSENT = -5, WORSE = -6;
    private static final int NOTHING = -11, CAST = -12, PLACE = -13, SIZE = -14;

    private static final int STATIONS = 8, SIDE = 32;
    private static final int CHANNELS = 20, ALL_CHANNELS = (1 << CHANNELS) - 1, SILENT = -1;
    private static final int RULES = 3, FARTHEST = 40, WIDEST_GAP = 4;
    private static final int MOST_WIDTH = 12, DRAWN_CHANNELS = 10;
    private static final int MOST_SEEN = 5, MOST_ROWS = 8;
    // Two ints have their greatest common divisor after fewer.
    private static final int MOST_DIVISIONS = 64;
    private static final int PLAN_ASSIGN = 0, PLAN_SILENCE = 1, PLAN_NEAR = 2, PLAN_FIX = 3;
    private static final int TEXT_SIGNS = 100, LAST_SIGN = 127, FAULT_BASE = -10;
    private static final int TAPES = 6, TAPE_ITEMS = 60, ROW_ENDED = 100;
    private static final int BLANK = -1, BYTES = 0, SHORTS = 1, INTS = 2, LONGS = 3, BOOLEANS = 4;

    private final Sheet now = new Sheet();
    private final Sheet kept = new Sheet();
    private boolean isKept = false;
    // What is only asked ("were it so") is tried out here, so that the stations stay as they are.
    private final Plane trial = new Plane();
    private final Widths widths = new Widths();
    private final Text text = new Text();
    private final Tape[] tapes = new Tape[TAPES];

    public GapStations() {
        for (int k = 0; k < TAPES; k++) {
            tapes[k] = new Tape();
        }
    }

    // ---- stations, rules

    public int station(int x, int y) {
        return isOnPlane(x, y) ? now.plane.settle(x, y) : BAD;
    }

    public int rule(int rule, int near, int gap) {
        if (!isRule(rule)) {
            return NONE;
        }
        if (!isNear(near) || !isGap(gap)) {
            return BAD;
        }
        return now.plane.change(rule, near, gap);
    }

    public int channel(int station, int channel) {
        Plane plane = now.plane;
        if (!plane.has(station)) {
            return NONE;
        }
        if (channel != SILENT && !isChannel(channel)) {
            return BAD;
        }
        if (channel != SILENT && plane.isFixed(station)) {
            return STATE;
        }
        int before = plane.channelOrAbsent(station);
        plane.tune(station, channel);
        return before;
    }

    public int fix(int station, boolean isFixed) {
        Plane plane = now.plane;
        if (!plane.has(station)) {
            return NONE;
        }
        if (plane.channelOf(station) == SILENT) {
            return STATE;
        }
        int before = plane.isFixed(station) ? 1 : 0;
        plane.pin(station, isFixed);
        return before;
    }

    public int move(int station, int x, int y) {
        Plane plane = now.plane;
        if (!plane.has(station)) {
            return NONE;
        }
        if (!isOnPlane(x, y)) {
            return BAD;
        }
        int there = plane.whoIsAt(x, y);
        if (there >= 0 && there != station) {
            return STATE;
        }
        return plane.carry(station, x, y);
    }

    public int feed(int sign) {
        return sign < 0 || sign > LAST_SIGN ? BAD : text.append(sign);
    }

    public int read() {
        int fault = text.parse();
        text.clear();
        if (fault >= 0) {
            return FAULT_BASE - fault;
        }
        int came = 0;
        for (int k = 0; k < text.clauses(); k++) {
            int station = now.plane.settle(text.x(k), text.y(k));
            if (station >= 0) {
                now.plane.tune(station, text.channelAt(k));
                now.plane.pin(station, text.isFixedAt(k));
                came++;
            }
        }
        return came;
    }

    public int of(int station, int what) {
        Plane plane = now.plane;
        if (!plane.has(station)) {
            return NONE;
        }
        switch (what) {
            case 0:
                return plane.x(station);
            case 1:
                return plane.y(station);
            case 2:
                return plane.channelOrAbsent(station);
            case 3:
                return plane.isFixed(station) ? 1 : 0;
            case 4:
                return Integer.bitCount(plane.allowedFor(station));
            case 5:
                return leastOf(plane.allowedFor(station));
            case 6:
                return plane.neighboursOf(station);
            case 7:
                return plane.clashesOf(station);
            default:
                return NONE;
        }
    }

    public int apart(int a, int b) {
        Plane plane = now.plane;
        return a != b && plane.has(a) && plane.has(b) ? plane.between(a, b) : NONE;
    }

    public int at(int x, int y) {
        if (!isOnPlane(x, y)) {
            return BAD;
        }
        int station = now.plane.whoIsAt(x, y);
        return station < 0 ? ABSENT : station;
    }

    // ---- channels

    public int assign() {
        return now.plane.tuneAll();
    }

    public int exchange(int station, int channel) {
        Plane plane = now.plane;
        if (!plane.has(station)) {
            return NONE;
        }
        if (!isChannel(channel)) {
            return BAD;
        }
        if (plane.channelOf(station) == SILENT || plane.channelOf(station) == channel) {
            return STATE;
        }
        return plane.swapChain(station, channel);
    }

    public int told(int what) {
        Plane plane = now.plane;
        switch (what) {
            case 0:
                return plane.size();
            case 1:
                return plane.span();
            case 2:
                return plane.clashes();
            case 3:
                return widths.bound(plane);
            case 4:
                return widths.leastWidth(plane);
            case 5:
                return widths.leastWidth(plane) == widths.bound(plane) ? 1 : 0;
            case 6:
                return plane.tuned();
            case 7:
                return Integer.bitCount(plane.usedChannels());
            case 8:
                return plane.fixedBits();
            default:
                return NONE;
        }
    }

    public int clique(int gap) {
        return isGap(gap) ? widths.largestClique(now.plane, gap) : BAD;
    }

    public int sorted(int k) {
        return k < 0 ? NONE : now.plane.rankedAt(k);
    }

    // ---- seen, odds

    public int see(int station, int channel) {
        if (station == -1) {
            return now.seen.clear();
        }
        if (!now.plane.has(station)) {
            return NONE;
        }
        return isChannel(channel) ? now.seen.append(station, channel) : BAD;
    }

    public int fits(int rule, int what) {
        if (!isRule(rule) || what < 0 || what > 1) {
            return NONE;
        }
        trial.copyFrom(now.plane);
        int many = 0;
        int least = ABSENT;
        boolean isSo = false;
        for (int near = 1; near <= FARTHEST; near++) {
            // Where no two must be otherwise apart than by the last near, it goes as by that.
            if (trial.changeNear(rule, near) || near == 1) {
                trial.tuneAll();
                isSo = firstOtherwise(now.seen, trial) == ABSENT;
            }
            many += isSo ? 1 : 0;
            least = isSo && least == ABSENT ? near : least;
        }
        return what == 0 ? many : least;
    }

    public long odds(int station, int part) {
        if (!now.plane.has(station) || !isPart(part)) {
            return NO;
        }
        trial.copyFrom(now.plane);
        int good = 0;
        for (int channel = 0; channel < DRAWN_CHANNELS; channel++) {
            trial.tune(station, channel);
            trial.pin(station, true);
            if (trial.tuneAll() == 0 && trial.clashes() == 0) {
                good++;
            }
        }
        return partOf(good, DRAWN_CHANNELS, part);
    }

    public long mean(int part) {
        int many = now.plane.tuned();
        return isPart(part) && many > 0 ? partOf(now.plane.channelSum(), many, part) : NO;
    }

    // ---- plans, books

    public int plan(int what, int n) {
        if (what == -1) {
            return now.plan.clear();
        }
        if (what < PLAN_ASSIGN || what > PLAN_FIX) {
            return NONE;
        }
        if ((what == PLAN_SILENCE || what == PLAN_FIX) && !now.plane.has(n)) {
            return NONE;
        }
        if (what == PLAN_NEAR && !isNear(n)) {
            return BAD;
        }
        return now.plan.append(what, n);
    }

    public int ends(int what) {
        if (what < 0 || what > 1) {
            return NONE;
        }
        trial.copyFrom(now.plane);
        for (int k = 0; k < now.plan.size(); k++) {
            goAhead(now.plan.first(k), now.plan.second(k));
        }
        return what == 0 ? trial.span() : trial.clashes();
    }

    private void goAhead(int what, int n) {
        switch (what) {
            case PLAN_ASSIGN:
                trial.tuneAll();
                break;
            case PLAN_SILENCE:
                trial.tune(n, SILENT);
                break;
            case PLAN_NEAR:
                trial.changeNear(0, n);
                break;
            default:
                trial.pin(n, true);
                break;
        }
    }

    public int book(int station, int channel) {
        if (station == -1) {
            return now.book.clear();
        }
        if (!now.plane.has(station)) {
            return NONE;
        }
        if (channel != SILENT && !isChannel(channel)) {
            return BAD;
        }
        return now.book.append(station, channel);
    }

    public int looked() {
        return firstOtherwise(now.book, now.plane);
    }

    // ---- judging, the image, tapes

    public int judge(int tape, int i) {
        if (!isTape(tape)) {
            return NONE;
        }
        Tape row = tapes[tape];
        if (!row.isBlank() && row.sort() != BYTES) {
            return CAST;
        }
        for (int k = 0; k < now.plane.size(); k++) {
            if (!row.holds(i + k)) {
                return ROW_ENDED + k;
            }
            if (row.get(i + k) != now.plane.channelOf(k)) {
                return k;
            }
        }
        return ABSENT;
    }

    public int image() {
        kept.copyFrom(now);
        isKept = true;
        return kept.plane.size();
    }

    public int undo() {
        if (!isKept) {
            return STATE;
        }
        now.copyFrom(kept);
        return now.plane.size();
    }

    public int count(int what) {
        switch (what) {
            case 0:
                return now.plane.size();
            case 1:
                return now.plane.rulesInForce();
            case 2:
                return now.seen.size();
            case 3:
                return now.plan.size();
            case 4:
                return now.book.size();
            case 5:
                return text.length();
            default:
                return BAD;
        }
    }

    public int tape(int tape, int sort, int n) {
        if (!isTape(tape)) {
            return NONE;
        }
        if (sort == BLANK) {
            tapes[tape].become(BLANK, 0);
            return 1;
        }
        if (sort < BYTES || sort > BOOLEANS || n > TAPE_ITEMS) {
            return BAD;
        }
        if (n < 0) {
            return SIZE;
        }
        tapes[tape].become(sort, n);
        return 1;
    }

    public int item(int tape, int i, long v) {
        if (!isTape(tape)) {
            return NONE;
        }
        Tape row = tapes[tape];
        if (row.isBlank()) {
            return NOTHING;
        }
        if (!row.holds(i)) {
            return PLACE;
        }
        row.put(i, v);
        return 1;
    }

    public long peek(int tape, int i) {
        return isTape(tape) && tapes[tape].holds(i) ? tapes[tape].get(i) : NO;
    }

    public int shift(int tape, int i, int other, int j, int n) {
        if (!isTape(tape) || !isTape(other)) {
            return NONE;
        }
        Tape from = tapes[tape];
        Tape to = tapes[other];
        if (from.isBlank() || to.isBlank()) {
            return NOTHING;
        }
        if (from.sort() != to.sort()) {
            return CAST;
        }
        if (!from.holdsRun(i, n) || !to.holdsRun(j, n)) {
            return PLACE;
        }
        to.take(j, from, i, n);
        return n;
    }

    // ---- what several calls ask

    private static boolean isOnPlane(int x, int y) {
        return x >= 0 && x < SIDE && y >= 0 && y < SIDE;
    }

    private static boolean isChannel(int channel) {
        return channel >= 0 && channel < CHANNELS;
    }

    private static boolean isRule(int rule) {
        return rule >= 0 && rule < RULES;
    }

    private static boolean isNear(int near) {
        return near >= 0 && near <= FARTHEST;
    }

    private static boolean isGap(int gap) {
        return gap >= 1 && gap <= WIDEST_GAP;
    }

    private static boolean isPart(int part) {
        return part == 0 || part == 1;
    }

    private static boolean isTape(int tape) {
        return tape >= 0 && tape < TAPES;
    }

    /** The number of the first row that tells another channel than its station has; -5: none. */
    private static int firstOtherwise(Rows rows, Plane plane) {
        for (int k = 0; k < rows.size(); k++) {
            if (plane.channelOf(rows.first(k)) != rows.second(k)) {
                return k;
            }
        }
        return ABSENT;
    }

    /** The channels that are nearer to a channel than a gap, as bits. */
    private static int band(int channel, int gap) {
        if (channel < 0 || gap <= 0) {
            return 0;
        }
        return ((1 << (2 * gap - 1)) - 1) << channel >> (gap - 1);
    }

    private static int leastOf(int channels) {
        for (int channel = 0; channel < CHANNELS; channel++) {
            if ((channels >> channel & 1) == 1) {
                return channel;
            }
        }
        return ABSENT;
    }

    private static long partOf(int above, int below, int part) {
        int a = above;
        int b = below;
        for (int step = 0; step < MOST_DIVISIONS && b != 0; step++) {
            int rest = a % b;
            a = b;
            b = rest;
        }
        if (a == 0) {
            return NO;
        }
        return part == 0 ? above / a : below / a;
    }

    /** All that the image holds. */
    private static final class Sheet {
        private final Plane plane = new Plane();
        private final Rows seen = new Rows(MOST_SEEN);
        private final Rows plan = new Rows(MOST_ROWS);
        private final Rows book = new Rows(MOST_ROWS);

        void copyFrom(Sheet other) {
            plane.copyFrom(other.plane);
            seen.copyFrom(other.seen);
            plan.copyFrom(other.plan);
            book.copyFrom(other.book);
        }
    }

    /** The stations with their channels, and the rules. */
    private static final class Plane {
        private final int[] xs = new int[STATIONS];
        private final int[] ys = new int[STATIONS];
        private final int[] channels = new int[STATIONS];
        private final int[] nears = new int[RULES];
        private final int[] gaps = new int[RULES];
        // By two stations; like the neighbours of each, kept in step with places and rules. A station
        // is 0 apart from itself.
        private final int[] aparts = new int[STATIONS * STATIONS];
        private final int[] neighbours = new int[STATIONS];
        // While all are assigned: the channels that are allowed for each, as bits.
        private final int[] open = new int[STATIONS];
        private int fixed = 0;
        private int size = 0;

        Plane() {
            for (int r = 0; r < RULES; r++) {
                gaps[r] = 1;
            }
        }

        void copyFrom(Plane other) {
            System.arraycopy(other.xs, 0, xs, 0, STATIONS);
            System.arraycopy(other.ys, 0, ys, 0, STATIONS);
            System.arraycopy(other.channels, 0, channels, 0, STATIONS);
            System.arraycopy(other.nears, 0, nears, 0, RULES);
            System.arraycopy(other.gaps, 0, gaps, 0, RULES);
            System.arraycopy(other.aparts, 0, aparts, 0, STATIONS * STATIONS);
            System.arraycopy(other.neighbours, 0, neighbours, 0, STATIONS);
            fixed = other.fixed;
            size = other.size;
        }

        int size() {
            return size;
        }

        boolean has(int station) {
            return station >= 0 && station < size;
        }

        int x(int station) {
            return has(station) ? xs[station] : NONE;
        }

        int y(int station) {
            return has(station) ? ys[station] : NONE;
        }

        boolean isFixed(int station) {
            return has(station) && (fixed >> station & 1) == 1;
        }

        int channelOf(int station) {
            return has(station) ? channels[station] : SILENT;
        }

        int channelOrAbsent(int station) {
            int channel = channelOf(station);
            return channel == SILENT ? ABSENT : channel;
        }

        int between(int a, int b) {
            return a >= 0 && a < size && b >= 0 && b < size ? aparts[a * STATIONS + b] : 0;
        }

        int whoIsAt(int x, int y) {
            for (int s = 0; s < size; s++) {
                if (xs[s] == x && ys[s] == y) {
                    return s;
                }
            }
            return NONE;
        }

        // ---- changes

        int settle(int x, int y) {
            if (whoIsAt(x, y) >= 0) {
                return STATE;
            }
            if (size >= STATIONS) {
                return FULL;
            }
            int station = size;
            xs[station] = x;
            ys[station] = y;
            channels[station] = SILENT;
            fixed &= ~(1 << station);
            size++;
            measure();
            return station;
        }

        int carry(int station, int x, int y) {
            if (!has(station)) {
                return NONE;
            }
            int across = x - xs[station];
            int along = y - ys[station];
            xs[station] = x;
            ys[station] = y;
            measure();
            return across * across + along * along;
        }

        int change(int rule, int near, int gap) {
            if (!isRule(rule)) {
                return NONE;
            }
            int before = 100 * nears[rule] + gaps[rule];
            nears[rule] = near;
            gaps[rule] = gap;
            measure();
            return before;
        }

        /** Changes a near alone: whether any two must be otherwise apart than before. */
        boolean changeNear(int rule, int near) {
            if (!isRule(rule)) {
                return false;
            }
            nears[rule] = near;
            return measure();
        }

        void tune(int station, int channel) {
            if (has(station)) {
                channels[station] = channel;
                fixed &= channel == SILENT ? ~(1 << station) : fixed;
            }
        }

        void pin(int station, boolean isFixed) {
            if (has(station)) {
                boolean isIn = isFixed && channels[station] != SILENT;
                fixed = isIn ? fixed | 1 << station : fixed & ~(1 << station);
            }
        }

        /** Measures anew how far apart all must be: whether any two must be otherwise than before. */
        private boolean measure() {
            boolean isOther = false;
            for (int a = 0; a < size; a++) {
                neighbours[a] = 0;
                for (int b = 0; b < a; b++) {
                    int gap = gapByRules(a, b);
                    isOther |= gap != aparts[a * STATIONS + b];
                    aparts[a * STATIONS + b] = gap;
                    aparts[b * STATIONS + a] = gap;
                    neighbours[a] += gap > 0 ? 1 : 0;
                    neighbours[b] += gap > 0 ? 1 : 0;
                }
            }
            return isOther;
        }

        // No two stations share a place, so a near of 0, which is no rule, reaches nobody.
        private int gapByRules(int a, int b) {
            int across = xs[a] - xs[b];
            int along = ys[a] - ys[b];
            int square = across * across + along * along;
            int greatest = 0;
            for (int r = 0; r < RULES; r++) {
                if (square <= nears[r] * nears[r] && gaps[r] > greatest) {
                    greatest = gaps[r];
                }
            }
            return greatest;
        }

        // ---- what is so now

        int rulesInForce() {
            int many = 0;
            for (int r = 0; r < RULES; r++) {
                many += nears[r] > 0 ? 1 : 0;
            }
            return many;
        }

        int allowedFor(int station) {
            int allowed = ALL_CHANNELS;
            for (int other = 0; other < size; other++) {
                allowed &= ~band(channels[other], between(station, other));
            }
            return allowed;
        }

        int neighboursOf(int station) {
            return has(station) ? neighbours[station] : NONE;
        }

        int clashesOf(int station) {
            int channel = channelOf(station);
            if (channel == SILENT) {
                return 0;
            }
            int many = 0;
            for (int other = 0; other < size; other++) {
                many += band(channels[other], between(station, other)) >> channel & 1;
            }
            return many;
        }

        int clashes() {
            int twice = 0;
            for (int s = 0; s < size; s++) {
                twice += clashesOf(s);
            }
            return twice / 2;
        }

        int span() {
            int used = usedChannels();
            if (used == 0) {
                return 0;
            }
            int greatest = 0;
            for (int channel = 0; channel < CHANNELS; channel++) {
                greatest = (used >> channel & 1) == 1 ? channel : greatest;
            }
            return greatest - leastOf(used) + 1;
        }

        int usedChannels() {
            int used = 0;
            for (int s = 0; s < size; s++) {
                used |= band(channels[s], 1);
            }
            return used;
        }

        int tuned() {
            int many = 0;
            for (int s = 0; s < size; s++) {
                many += channels[s] == SILENT ? 0 : 1;
            }
            return many;
        }

        int channelSum() {
            int sum = 0;
            for (int s = 0; s < size; s++) {
                sum += channels[s] == SILENT ? 0 : channels[s];
            }
            return sum;
        }

        int fixedBits() {
            return fixed;
        }

        int rankedAt(int k) {
            int rank = 0;
            for (int channel = 0; channel < CHANNELS; channel++) {
                for (int s = 0; s < size; s++) {
                    if (channels[s] == channel) {
                        if (rank == k) {
                            return s;
                        }
                        rank++;
                    }
                }
            }
            return ABSENT;
        }

        // ---- assigning

        /** Assigns all: how many are stuck. */
        int tuneAll() {
            int waiting = 0;
            for (int s = 0; s < size; s++) {
                if (!isFixed(s)) {
                    channels[s] = SILENT;
                    waiting |= 1 << s;
                }
            }
            for (int s = 0; s < size; s++) {
                open[s] = allowedFor(s);
            }
            int stuck = 0;
            for (int step = 0; step < size && waiting != 0; step++) {
                int next = tightest(waiting);
                if (next < 0) {
                    return stuck;
                }
                waiting &= ~(1 << next);
                if (open[next] == 0) {
                    stuck++;
                } else {
                    give(next, leastOf(open[next]));
                }
            }
            return stuck;
        }

        private int tightest(int waiting) {
            int best = NONE;
            int fewest = 0;
            int most = 0;
            for (int s = 0; s < size; s++) {
                if ((waiting >> s & 1) == 1) {
                    int left = Integer.bitCount(open[s]);
                    if (best < 0 || left < fewest || left == fewest && neighbours[s] > most) {
                        best = s;
                        fewest = left;
                        most = neighbours[s];
                    }
                }
            }
            return best;
        }

        private void give(int station, int channel) {
            tune(station, channel);
            for (int other = 0; other < size; other++) {
                open[other] &= ~band(channel, between(station, other));
            }
        }

        // ---- exchanging

        /** Exchanges two channels along a chain: how many are in it; -5 one is fixed; -6 it is worse. */
        int swapChain(int station, int channel) {
            int both = channelOf(station) + channel;
            int chain = chainOf(station, both);
            if ((chain & fixed) != 0) {
                return ABSENT;
            }
            int before = clashes();
            swap(chain, both);
            if (clashes() > before) {
                swap(chain, both);
                return WORSE;
            }
            return Integer.bitCount(chain);
        }

        private int chainOf(int station, int both) {
            int chain = 1 << station;
            for (int round = 0; round < size; round++) {
                for (int s = 0; s < size; s++) {
                    if ((chain >> s & 1) == 1) {
                        chain |= neighboursOn(s, both - channels[s]);
                    }
                }
            }
            return chain;
        }

        private int neighboursOn(int station, int channel) {
            int bits = 0;
            for (int other = 0; other < size; other++) {
                if (channels[other] == channel && between(station, other) > 0) {
                    bits |= 1 << other;
                }
            }
            return bits;
        }

        // The other one of two channels is what both together are more than the one.
        private void swap(int chain, int both) {
            for (int s = 0; s < size; s++) {
                if ((chain >> s & 1) == 1) {
                    channels[s] = both - channels[s];
                }
            }
        }
    }

    /** Tells how wide it must be: by cliques, and by trying channels station by station. */
    private static final class Widths {
        // While a clique is sought: who may be in one with each station, as bits.
        private final int[] friends = new int[STATIONS];
        // By depth and station: the channels that are left for it, as bits.
        private final int[] left = new int[(STATIONS + 1) * STATIONS];

        int largestClique(Plane plane, int gap) {
            befriend(plane, gap);
            int best = 0;
            int most = 0;
            for (int bits = 1; bits < 1 << plane.size(); bits++) {
                int many = Integer.bitCount(bits);
                if (many > most && areFriends(bits, plane.size())) {
                    best = bits;
                    most = many;
                }
            }
            return best;
        }

        private void befriend(Plane plane, int gap) {
            for (int s = 0; s < plane.size(); s++) {
                friends[s] = 1 << s;
                for (int other = 0; other < plane.size(); other++) {
                    friends[s] |= plane.between(s, other) >= gap ? 1 << other : 0;
                }
            }
        }

        private boolean areFriends(int bits, int size) {
            for (int s = 0; s < size; s++) {
                if ((bits >> s & 1) == 1 && (bits & ~friends[s]) != 0) {
                    return false;
                }
            }
            return true;
        }

        int bound(Plane plane) {
            if (plane.size() == 0) {
                return 0;
            }
            int greatest = 0;
            for (int gap = 1; gap <= WIDEST_GAP; gap++) {
                int many = Integer.bitCount(largestClique(plane, gap));
                greatest = Math.max(greatest, (many - 1) * gap + 1);
            }
            return greatest;
        }

        int leastWidth(Plane plane) {
            if (plane.size() == 0) {
                return 0;
            }
            // No width below the bound can do, so there is no need to try one.
            for (int width = bound(plane); width <= MOST_WIDTH; width++) {
                if (isWideEnough(plane, width)) {
                    return width;
                }
            }
            return ABSENT;
        }

        private boolean isWideEnough(Plane plane, int width) {
            int all = (1 << width) - 1;
            for (int s = 0; s < plane.size(); s++) {
                int may = plane.isFixed(s) ? all & band(plane.channelOf(s), 1) : all;
                if (may == 0) {
                    return false;
                }
                leave(0, s, may);
            }
            return areSeated(this, plane, (1 << plane.size()) - 1, 0);
        }

        private static boolean areSeated(Widths widths, Plane plane, int waiting, int depth) {
            if (waiting == 0) {
                return true;
            }
            int next = depth < STATIONS ? widths.tightest(plane, waiting, depth) : NONE;
            if (next < 0) {
                return false;
            }
            int rest = waiting & ~(1 << next);
            int tried = widths.leftAt(depth, next);
            if (depth == 0 && plane.fixedBits() == 0) {
                tried = lowerHalf(tried);
            }
            for (int channel = 0; channel < MOST_WIDTH; channel++) {
                if ((tried >> channel & 1) == 1 && widths.leaves(plane, rest, depth, next, channel)
                        && areSeated(widths, plane, rest, depth + 1)) {
                    return true;
                }
            }
            return false;
        }

        // Where nobody is fixed, all channels may be mirrored, so the upper half tells nothing new.
        private static int lowerHalf(int channels) {
            return channels & (1 << (Integer.bitCount(channels) + 1) / 2) - 1;
        }

        // Who has few channels left and takes many from those that wait comes first: so a width that is too
        // narrow shows early.
        private int tightest(Plane plane, int waiting, int depth) {
            int best = NONE;
            int fewest = 0;
            int most = 0;
            for (int s = 0; s < plane.size(); s++) {
                if ((waiting >> s & 1) == 1) {
                    int many = Integer.bitCount(leftAt(depth, s));
                    int weight = 1 + weightAmong(plane, waiting, s);
                    if (best < 0 || many * most < fewest * weight) {
                        best = s;
                        fewest = many;
                        most = weight;
                    }
                }
            }
            return best;
        }

        private int weightAmong(Plane plane, int waiting, int station) {
            int weight = 0;
            for (int s = 0; s < plane.size(); s++) {
                weight += (waiting >> s & 1) == 1 ? plane.between(station, s) : 0;
            }
            return weight;
        }

        /** Takes what a station's channel rules out from the others, a depth on: whether each has one left. */
        private boolean leaves(Plane plane, int others, int depth, int station, int channel) {
            for (int s = 0; s < plane.size(); s++) {
                if ((others >> s & 1) == 1) {
                    int rest = leftAt(depth, s) & ~band(channel, plane.between(station, s));
                    if (rest == 0) {
                        return false;
                    }
                    leave(depth + 1, s, rest);
                }
            }
            return true;
        }

        private int leftAt(int depth, int station) {
            int i = depth * STATIONS + station;
            return i >= 0 && i < left.length ? left[i] : 0;
        }

        private void leave(int depth, int station, int channels) {
            int i = depth * STATIONS + station;
            if (i >= 0 && i < left.length) {
                left[i] = channels;
            }
        }
    }

    /** Rows of two numbers that are told by hand. */
    private static final class Rows {
        private final int limit;
        private final int[] firsts = new int[MOST_ROWS];
        private final int[] seconds = new int[MOST_ROWS];
        private int size = 0;

        Rows(int limit) {
            this.limit = Math.min(limit, MOST_ROWS);
        }

        int size() {
            return size;
        }

        int clear() {
            size = 0;
            return size;
        }

        int append(int first, int second) {
            if (size >= limit) {
                return FULL;
            }
            firsts[size] = first;
            seconds[size] = second;
            size++;
            return size;
        }

        int first(int k) {
            return k >= 0 && k < size ? firsts[k] : NONE;
        }

        int second(int k) {
            return k >= 0 && k < size ? seconds[k] : NONE;
        }

        void copyFrom(Rows other) {
            System.arraycopy(other.firsts, 0, firsts, 0, MOST_ROWS);
            System.arraycopy(other.seconds, 0, seconds, 0, MOST_ROWS);
            size = other.size;
        }
    }

    /** The text, and the clauses that were read from it last. */
    private static final class Text {
        private final byte[] signs = new byte[TEXT_SIGNS];
        private int length = 0;
        private int place = 0;
        private int fault = NONE;
        private int clauses = 0;
        private final int[] xs = new int[STATIONS];
        private final int[] ys = new int[STATIONS];
        private final int[] channels = new int[STATIONS];
        private final boolean[] fixed = new boolean[STATIONS];

        int length() {
            return length;
        }

        int append(int sign) {
            if (length >= TEXT_SIGNS) {
                return FULL;
            }
            signs[length] = (byte) sign;
            length++;
            return length;
        }

        void clear() {
            length = 0;
        }

        int clauses() {
            return clauses;
        }

        int x(int k) {
            return k >= 0 && k < clauses ? xs[k] : NONE;
        }

        int y(int k) {
            return k >= 0 && k < clauses ? ys[k] : NONE;
        }

        int channelAt(int k) {
            return k >= 0 && k < clauses ? channels[k] : SILENT;
        }

        boolean isFixedAt(int k) {
            return k >= 0 && k < clauses && fixed[k];
        }

        /** Reads the clauses: the place of the fault; below 0: there is none. */
        int parse() {
            place = 0;
            fault = NONE;
            clauses = 0;
            for (int k = 0; k < STATIONS; k++) {
                if (k > 0) {
                    expect(';');
                }
                readClause(k);
                if (fault >= 0) {
                    return fault;
                }
                clauses++;
                if (place >= length) {
                    return NONE;
                }
            }
            return place;
        }

        private void readClause(int k) {
            xs[k] = readNumber(SIDE - 1);
            expect(',');
            ys[k] = readNumber(SIDE - 1);
            channels[k] = SILENT;
            fixed[k] = false;
            if (fault < 0 && isNext('=')) {
                expect('=');
                channels[k] = readNumber(CHANNELS - 1);
                if (fault < 0 && isNext('!')) {
                    expect('!');
                    fixed[k] = true;
                }
            }
        }

        private boolean isNext(char sign) {
            return place < length && signs[place] == sign;
        }

        // The first fault is the one that is told, so nothing is read behind it.
        private void expect(char sign) {
            if (fault >= 0) {
                return;
            }
            if (isNext(sign)) {
                place++;
            } else {
                fault = place;
            }
        }

        private int readNumber(int greatest) {
            if (fault >= 0) {
                return 0;
            }
            int first = digit();
            if (first < 0) {
                fault = place;
                return 0;
            }
            place++;
            int second = digit();
            if (second < 0) {
                return first;
            }
            int number = first * 10 + second;
            if (number > greatest) {
                fault = place;
                return 0;
            }
            place++;
            return number;
        }

        private int digit() {
            if (place >= length || signs[place] < '0' || signs[place] > '9') {
                return NONE;
            }
            return signs[place] - '0';
        }
    }

    /** A row of items of one sort, or nothing; items are held as the longs that they are worth. */
    private static final class Tape {
        private final long[] items = new long[TAPE_ITEMS];
        private int sort = BLANK;
        private int length = 0;

        boolean isBlank() {
            return sort == BLANK;
        }

        int sort() {
            return sort;
        }

        void become(int newSort, int newLength) {
            sort = newSort;
            length = Math.max(0, Math.min(newLength, TAPE_ITEMS));
            for (int i = 0; i < TAPE_ITEMS; i++) {
                items[i] = 0;
            }
        }

        boolean holds(int i) {
            return i >= 0 && i < length;
        }

        // The run is measured by what is left behind i, as i + n might wrap around.
        boolean holdsRun(int i, int n) {
            return i >= 0 && n >= 0 && n <= length - i;
        }

        long get(int i) {
            return holds(i) ? items[i] : NO;
        }

        void put(int i, long v) {
            if (holds(i)) {
                items[i] = cut(v);
            }
        }

        void take(int j, Tape from, int i, int n) {
            if (holdsRun(j, n) && from.holdsRun(i, n)) {
                System.arraycopy(from.items, i, items, j, n);
            }
        }

        private long cut(long v) {
            switch (sort) {
                case BYTES:
                    return (byte) v;
                case SHORTS:
                    return (short) v;
                case INTS:
                    return (int) v;
                case LONGS:
                    return v;
                default:
                    return v == 0 ? 0 : 1;
            }
        }
    }
}
