import java.util.Arrays;

/**
 * A finder of what is broken in a machine of parts on wires.
 *
 * <p>Every row that a call needs is made once, with the object: no call makes an object or an array.
 */
public final class FaultFinder {
    public static final int NONE = -1;
    public static final int MISSING = -2;
    public static final int BEYOND = -3;
    public static final int BELOW = -4;
    public static final int KIND = -5;
    public static final int COPY = -6;
    public static final int NO = -7;
    public static final int FULL = -8;

    private static final int MOST_WIRES = 14;
    private static final int MOST_PARTS = 7;
    private static final int MOST_STREAMS = 2;
    private static final int MOST_TICKS = 3;
    private static final int MOST_LOOKS = 16;
    private static final int MOST_BROKEN = 3;
    /** Neither stories nor quarrels hold one another: of 7 parts that leaves 35 sets at most. */
    private static final int MOST_SETS = 35;
    private static final int PLACES = MOST_TICKS * MOST_WIRES;
    private static final int TABLE = 9;
    /** What two streams owe to the next tick is told as one number, 3 times the second and the first. */
    private static final int STATES = 9;

    private static final int KNOWN = 1;
    private static final int STREAM = 2;
    private static final int SOURCE = 3;
    private static final int METER = 4;

    private static final int AS_DUE = 0;
    private static final int ZERO = 1;
    private static final int TOP = 2;
    private static final int TURNED = 4;
    private static final int PASSED = 8;
    private static final int FREE = 16;

    private final Wires wires = new Wires();
    private final Parts parts = new Parts();
    private final Looks looks = new Looks();
    private final Findings findings = new Findings(wires, parts, looks);
    private final int[] theRow = new int[MOST_WIRES];
    private int rowLength = NONE;
    private final int[] refused = new int[1 - FULL];

    public FaultFinder() {
    }

    // ---- the machine

    public int wire(int range) {
        if (range != 2 && range != 3) {
            return refuse(NO);
        }
        if (wires.count >= MOST_WIRES) {
            return refuse(FULL);
        }
        findings.forget();
        return wires.add(range);
    }

    public int part(int told, int wire, int x, int y) {
        int kind = told / 10;
        // Only a KIND has inputs: of a KIND that there isn't, x and y don't matter.
        boolean isKind = told >= 0 && kind <= METER;
        boolean hasX = isKind && kind != SOURCE;
        boolean hasY = hasX && kind != METER;
        if (!isWire(wire) || (hasX && !isWire(x)) || (hasY && !isWire(y))) {
            return refuse(BEYOND);
        }
        boolean known = isKind && (!hasY || told % 10 <= 5);
        if (!known || (hasX && x >= wire) || (hasY && y >= wire) || wires.driver[wire] != NONE) {
            return refuse(NO);
        }
        if (parts.count >= MOST_PARTS || (kind == STREAM && parts.streamCount >= MOST_STREAMS)) {
            return refuse(FULL);
        }
        findings.forget();
        int part = parts.add(kind, hasY ? told % 10 : 0, wire, hasX ? x : NONE, hasY ? y : NONE);
        parts.layWork(part, wires.range[wire]);
        wires.driver[wire] = part;
        return part;
    }

    public int table(int part, int at, int v) {
        if (!isPart(part) || at < 0 || at >= TABLE) {
            return refuse(BEYOND);
        }
        if (parts.kind[part] == METER) {
            return refuse(KIND);
        }
        if (v < 0 || v > 2) {
            return refuse(NO);
        }
        int before = parts.table[part * TABLE + at];
        parts.table[part * TABLE + at] = v;
        parts.layWork(part, wires.range[parts.drives[part]]);
        findings.forget();
        return before;
    }

    public int ways(int part, int ways) {
        if (!isPart(part)) {
            return refuse(BEYOND);
        }
        if (!parts.hasWays(part)) {
            return refuse(KIND);
        }
        if (ways < 1 || ways > 15) {
            return refuse(NO);
        }
        int before = parts.ways[part];
        parts.ways[part] = ways;
        findings.forget();
        return before;
    }

    public int odds(int part, int odds) {
        if (!isPart(part)) {
            return refuse(BEYOND);
        }
        if (parts.kind[part] == METER) {
            return refuse(KIND);
        }
        if (odds < 1 || odds > 9) {
            return refuse(NO);
        }
        int before = parts.odds[part];
        parts.odds[part] = odds;
        return before;
    }

    public int price(int wire, int price) {
        if (!isWire(wire)) {
            return refuse(BEYOND);
        }
        if (price < 1 || price > 9) {
            return refuse(NO);
        }
        int before = wires.price[wire];
        wires.price[wire] = price;
        return before;
    }

    public int ticks(int t) {
        if (t < 1 || t > MOST_TICKS) {
            return refuse(NO);
        }
        int before = wires.ticks;
        wires.keepTicks(t);
        looks.keepTicks(t);
        findings.forget();
        return before;
    }

    public int set(int tick, int wire, int v) {
        if (!isTick(tick) || !isWire(wire)) {
            return refuse(BEYOND);
        }
        if (wires.driver[wire] != NONE) {
            return refuse(KIND);
        }
        if (v < 0 || v >= wires.range[wire]) {
            return refuse(NO);
        }
        int place = tick * MOST_WIRES + wire;
        int before = wires.input[place];
        wires.input[place] = v;
        findings.forget();
        return before;
    }

    public int sound(int part, boolean is) {
        if (!isPart(part)) {
            return refuse(BEYOND);
        }
        if (parts.kind[part] == METER) {
            return refuse(KIND);
        }
        int before = parts.sound >> part & 1;
        int others = parts.sound & ~(1 << part);
        parts.sound = is ? others | 1 << part : others;
        findings.forget();
        return before;
    }

    public int look(int part, int what) {
        if (!isPart(part)) {
            return refuse(BEYOND);
        }
        switch (what) {
            case 0:
                return parts.kind[part];
            case 1:
                return parts.work[part];
            case 2:
                return parts.drives[part];
            case 3:
                return parts.x[part];
            case 4:
                return parts.y[part];
            case 5:
                return parts.ways[part];
            case 6:
                return parts.odds[part];
            case 7:
                return parts.sound >> part & 1;
            default:
                return refuse(NO);
        }
    }

    public int count(int what, int wire) {
        if ((what == 4 || what == 5) && !isWire(wire)) {
            return refuse(BEYOND);
        }
        switch (what) {
            case 0:
                return wires.count;
            case 1:
                return parts.count;
            case 2:
                return wires.ticks;
            case 3:
                return looks.count;
            case 4:
                return wires.driver[wire];
            case 5:
                return wires.range[wire];
            default:
                return refuse(NO);
        }
    }

    // ---- what is seen

    public int see(int tick, int wire, int v) {
        if (!isTick(tick) || !isWire(wire)) {
            return refuse(BEYOND);
        }
        int place = tick * MOST_WIRES + wire;
        if (v < 0 || v >= wires.range[wire] || looks.seen[place] != NONE) {
            return refuse(NO);
        }
        if (looks.count >= MOST_LOOKS) {
            return refuse(FULL);
        }
        looks.add(place, v);
        findings.forget();
        return looks.count;
    }

    public int unsee() {
        if (looks.count < 1) {
            return refuse(MISSING);
        }
        looks.dropLatest();
        findings.forget();
        return looks.count;
    }

    public int due(int tick, int wire) {
        if (!isTick(tick) || !isWire(wire)) {
            return refuse(BEYOND);
        }
        return findings.numbersDue(tick)[tick * MOST_WIRES + wire];
    }

    // ---- stories

    public int stories() {
        return findings.findStories();
    }

    public int story(int i) {
        if (i < 0 || i >= findings.findStories()) {
            return refuse(BEYOND);
        }
        return findings.stories[i];
    }

    public int agrees(int parts) {
        if (!areParts(parts)) {
            return refuse(BEYOND);
        }
        if ((parts & (this.parts.meters | this.parts.sound)) != 0) {
            return refuse(NO);
        }
        return findings.doesAgree(parts) ? 1 : 0;
    }

    public long weigh(int parts) {
        if (!areParts(parts)) {
            refuse(BEYOND);
            return 0;
        }
        if ((parts & this.parts.meters) != 0) {
            refuse(NO);
            return 0;
        }
        return this.parts.weightOf(parts);
    }

    public int likely() {
        int count = findings.findStories();
        if (count < 1) {
            return refuse(MISSING);
        }
        int best = 0;
        long most = 0;
        for (int i = 0; i < count; i++) {
            long weight = parts.weightOf(findings.stories[i]);
            if (weight > most) {
                most = weight;
                best = i;
            }
        }
        return best;
    }

    public long chance(int part, boolean lower) {
        if (!isPart(part)) {
            refuse(BEYOND);
            return 0;
        }
        int count = findings.findStories();
        if (count < 1) {
            refuse(MISSING);
            return 0;
        }
        long with = 0;
        long all = 0;
        for (int i = 0; i < count; i++) {
            long weight = parts.weightOf(findings.stories[i]);
            all += weight;
            if ((findings.stories[i] >> part & 1) != 0) {
                with += weight;
            }
        }
        long common = commonDivisor(all, with);
        if (common < 1) {
            return 0;
        }
        return (lower ? all : with) / common;
    }

    // ---- quarrels

    public int quarrels() {
        return findings.findQuarrels();
    }

    public int quarrel(int i) {
        if (i < 0 || i >= findings.findQuarrels()) {
            return refuse(BEYOND);
        }
        return findings.quarrels[i];
    }

    public int judge(int parts) {
        if (!areParts(parts)) {
            return refuse(BEYOND);
        }
        if ((parts & this.parts.meters) != 0) {
            return refuse(NO);
        }
        if (findings.canBe(parts)) {
            return 0;
        }
        for (int p = 0; p < this.parts.count; p++) {
            if ((parts >> p & 1) != 0 && !findings.canBe(parts & ~(1 << p))) {
                return 1;
            }
        }
        return 2;
    }

    // ---- looks

    public int values(int tick, int wire, int i) {
        if (!isTick(tick) || !isWire(wire) || i < 0 || i >= findings.findStories()) {
            return refuse(BEYOND);
        }
        findings.learn(i, i + 1);
        return findings.values[i * PLACES + tick * MOST_WIRES + wire];
    }

    public int worth(int tick, int wire) {
        if (!isTick(tick) || !isWire(wire)) {
            return refuse(BEYOND);
        }
        findings.learn(0, findings.findStories());
        return findings.worthOf(tick * MOST_WIRES + wire);
    }

    public int next() {
        findings.learn(0, findings.findStories());
        int best = NONE;
        int least = 0;
        for (int tick = 0; tick < wires.ticks; tick++) {
            for (int wire = 0; wire < wires.count; wire++) {
                int place = tick * MOST_WIRES + wire;
                if (!isMetered(wire) && findings.tells(place)) {
                    int cost = findings.worthOf(place) * wires.price[wire];
                    if (best == NONE || cost < least) {
                        best = 100 * tick + wire;
                        least = cost;
                    }
                }
            }
        }
        return best;
    }

    public int apart(int i, int j) {
        int count = findings.findStories();
        if (i < 0 || i >= count || j < 0 || j >= count) {
            return refuse(BEYOND);
        }
        findings.learn(i, i + 1);
        findings.learn(j, j + 1);
        for (int tick = 0; tick < wires.ticks; tick++) {
            for (int wire = 0; wire < wires.count; wire++) {
                int place = tick * MOST_WIRES + wire;
                int common = findings.values[i * PLACES + place] & findings.values[j * PLACES + place];
                if (common == 0 && !isMetered(wire)) {
                    return 100 * tick + wire;
                }
            }
        }
        return NONE;
    }

    // ---- rows

    public int lay(int tick) {
        if (!isTick(tick)) {
            return refuse(BEYOND);
        }
        System.arraycopy(findings.numbersDue(tick), tick * MOST_WIRES, theRow, 0, wires.count);
        rowLength = wires.count;
        return rowLength;
    }

    public int tear() {
        int was = rowLength == NONE ? 0 : 1;
        rowLength = NONE;
        return was;
    }

    public int row(int i) {
        if (rowLength == NONE) {
            return refuse(MISSING);
        }
        if (i < 0 || i >= rowLength) {
            return refuse(BEYOND);
        }
        return theRow[i];
    }

    public int copy(int i, int j, int n) {
        if (rowLength == NONE) {
            return refuse(MISSING);
        }
        if (n < 0) {
            return refuse(BELOW);
        }
        // i + n could wrap around; rowLength - i can't once i is known not to be below 0.
        if (i < 0 || j < 0 || n > rowLength - i || n > rowLength - j) {
            return refuse(COPY);
        }
        System.arraycopy(theRow, i, theRow, j, n);
        return n;
    }

    public int status(int by) {
        if (by < FULL || by > MISSING) {
            return refuse(NO);
        }
        return refused[-by];
    }

    private int refuse(int by) {
        refused[-by]++;
        return by;
    }

    private boolean isWire(int wire) {
        return wire >= 0 && wire < wires.count;
    }

    private boolean isPart(int part) {
        return part >= 0 && part < parts.count;
    }

    private boolean isTick(int tick) {
        return tick >= 0 && tick < wires.ticks;
    }

    private boolean areParts(int bits) {
        return bits >>> parts.count == 0;
    }

    private boolean isMetered(int wire) {
        int part = wires.driver[wire];
        return part != NONE && parts.kind[part] == METER;
    }

    private static long commonDivisor(long a, long b) {
        long greater = a;
        long lesser = b;
        // Two steps at least halve the number: 128 are more than any two longs need.
        for (int step = 0; step < 128 && lesser != 0; step++) {
            long rest = greater % lesser;
            greater = lesser;
            lesser = rest;
        }
        return greater;
    }

    /** The wires, and the ticks in which they have numbers. */
    private static final class Wires {
        int count = 0;
        int ticks = 1;
        final int[] range = new int[MOST_WIRES];
        final int[] driver = new int[MOST_WIRES];
        final int[] price = new int[MOST_WIRES];
        /** The numbers of inputs, tick by tick. */
        final int[] input = new int[PLACES];

        int add(int numbers) {
            int wire = count;
            range[wire] = numbers;
            driver[wire] = NONE;
            price[wire] = 1;
            count++;
            return wire;
        }

        void keepTicks(int t) {
            ticks = t;
            for (int place = t * MOST_WIRES; place < PLACES; place++) {
                input[place] = 0;
            }
        }
    }

    private static final class Parts {
        int count = 0;
        final int[] kind = new int[MOST_PARTS];
        final int[] work = new int[MOST_PARTS];
        final int[] drives = new int[MOST_PARTS];
        final int[] x = new int[MOST_PARTS];
        final int[] y = new int[MOST_PARTS];
        final int[] ways = new int[MOST_PARTS];
        final int[] odds = new int[MOST_PARTS];
        final int[] table = new int[MOST_PARTS * TABLE];
        /** What a part makes of a and b, modulo its wire's range, at 3 a + b. */
        final int[] made = new int[MOST_PARTS * TABLE];
        /** The parts by the wires that they drive: what a part reads is driven by parts ahead of it. */
        final int[] order = new int[MOST_PARTS];
        final int[] streams = new int[MOST_STREAMS];
        int streamCount = 0;
        /** The meters, as bits. */
        int meters = 0;
        /** The parts told to be sound, as bits. */
        int sound = 0;

        int add(int itsKind, int itsWork, int wire, int itsX, int itsY) {
            int part = count;
            kind[part] = itsKind;
            work[part] = itsWork;
            drives[part] = wire;
            x[part] = itsX;
            y[part] = itsY;
            odds[part] = 1;
            ways[part] = hasWays(part) ? 1 : 0;
            if (itsKind == METER) {
                meters |= 1 << part;
            }
            if (itsKind == STREAM) {
                streams[streamCount] = part;
                streamCount++;
            }
            int place = count;
            for (; place > 0 && drives[order[place - 1]] > wire; place--) {
                order[place] = order[place - 1];
            }
            order[place] = part;
            count++;
            return part;
        }

        boolean hasWays(int part) {
            return kind[part] == KNOWN || kind[part] == STREAM;
        }

        /** Lays out anew what a part makes of its inputs. */
        void layWork(int part, int range) {
            if (range < 1) {
                return;
            }
            for (int a = 0; a < 3; a++) {
                for (int b = 0; b < 3; b++) {
                    made[part * TABLE + 3 * a + b] = workOn(part, a, b) % range;
                }
            }
        }

        private int workOn(int part, int a, int b) {
            if (kind[part] == METER) {
                return a;
            }
            if (kind[part] == SOURCE) {
                return table[part * TABLE];
            }
            switch (work[part]) {
                case 0:
                    return a + b;
                case 1:
                    return a * b;
                case 2:
                    return a > b ? a : b;
                case 3:
                    return a < b ? a : b;
                case 4:
                    return a == b ? 1 : 0;
                default:
                    return table[part * TABLE + 3 * a + b];
            }
        }

        long weightOf(int broken) {
            long weight = 1;
            for (int p = 0; p < count; p++) {
                if (kind[p] != METER) {
                    weight *= (broken >> p & 1) != 0 ? odds[p] : 10 - odds[p];
                }
            }
            return weight;
        }
    }

    private static final class Looks {
        int count = 0;
        /** The places of the looks, as they came. */
        final int[] place = new int[MOST_LOOKS];
        /** What was seen at each place; NONE where nobody looked. */
        final int[] seen = new int[PLACES];

        Looks() {
            Arrays.fill(seen, NONE);
        }

        void add(int at, int v) {
            place[count] = at;
            seen[at] = v;
            count++;
        }

        void dropLatest() {
            count--;
            seen[place[count]] = NONE;
        }

        void keepTicks(int t) {
            int kept = 0;
            for (int i = 0; i < count; i++) {
                if (place[i] < t * MOST_WIRES) {
                    place[kept] = place[i];
                    kept++;
                } else {
                    seen[place[i]] = NONE;
                }
            }
            count = kept;
        }
    }

    /** One tick of the machine: the numbers that its wires can have, with what was seen in it. */
    private static final class Moment {
        private final Wires wires;
        private final Parts parts;
        private final Looks looks;
        /** How each part is taken: as due, broken in one way, or free to give any number. */
        final int[] role = new int[MOST_PARTS];
        /** The wires' numbers, tick by tick. */
        final int[] now = new int[PLACES];
        /** What each stream should give in this tick. */
        final int[] owed = new int[MOST_PARTS];
        /** The numbers that wires had when all went well, as bits: written while recording. */
        final int[] found = new int[PLACES];
        boolean recording = false;
        /** While recording: the states, as bits, from which the ticks to come go well. */
        int wanted = 0;
        private int tick = 0;
        private int needed = 0;
        private int owing = 0;
        private int reached = 0;
        private int reachable = 0;

        Moment(Wires wires, Parts parts, Looks looks) {
            this.wires = wires;
            this.parts = parts;
            this.looks = looks;
        }

        /** Turns to a tick: which wires matter in it, which streams (as bits) hand on what they owe. */
        void enter(int toTick, int neededWires, int owingStreams) {
            tick = toTick;
            needed = neededWires;
            owing = owingStreams;
            int first = (1 << numbersOwed(0)) - 1;
            reachable = 0;
            for (int second = 0; second < numbersOwed(1); second++) {
                reachable |= first << 3 * second;
            }
        }

        private int numbersOwed(int slot) {
            return (owing >> slot & 1) != 0 ? wires.range[parts.drives[parts.streams[slot]]] : 1;
        }

        /** The states, as bits, in which the next tick may begin, if this one begins in a state. */
        int reachedFrom(int state, int end) {
            owed[parts.streams[0]] = state % 3;
            if (parts.streamCount > 1) {
                owed[parts.streams[1]] = state / 3;
            }
            reached = 0;
            walk(0, end);
            return reached;
        }

        /** Goes on from a place of the order, by all numbers of free parts; true: no other state is left to reach. */
        private boolean walk(int from, int end) {
            for (int at = from; at < end; at++) {
                int part = parts.order[at];
                int wire = parts.drives[part];
                if ((needed >> wire & 1) == 0) {
                    continue;
                }
                int place = tick * MOST_WIRES + wire;
                int seen = looks.seen[place];
                if (role[part] == FREE && seen == NONE) {
                    for (int v = 0; v < wires.range[wire]; v++) {
                        now[place] = v;
                        if (walk(at + 1, end)) {
                            return true;
                        }
                    }
                    return false;
                }
                int v = role[part] == FREE ? seen : gives(part);
                int off = parts.kind[part] == METER ? 1 : 0;
                if (seen != NONE && (v > seen + off || v < seen - off)) {
                    return false;
                }
                now[place] = v;
            }
            return arrive();
        }

        private boolean arrive() {
            int state = 0;
            if ((owing & 1) != 0) {
                state += makes(parts.streams[0]);
            }
            if ((owing & 2) != 0) {
                state += 3 * makes(parts.streams[1]);
            }
            if (!recording) {
                reached |= 1 << state;
                return reached == reachable;
            }
            if ((wanted >> state & 1) != 0) {
                int first = tick * MOST_WIRES;
                for (int place = first; place < first + wires.count; place++) {
                    found[place] |= 1 << now[place];
                }
            }
            return false;
        }

        private int gives(int part) {
            int way = role[part];
            int top = wires.range[parts.drives[part]] - 1;
            if (way == ZERO) {
                return 0;
            }
            if (way == TOP) {
                return top;
            }
            if (way == PASSED && parts.x[part] != NONE) {
                int a = now[tick * MOST_WIRES + parts.x[part]];
                return a > top ? a - top - 1 : a;
            }
            int should = parts.kind[part] == STREAM ? owed[part] : makes(part);
            return way == TURNED ? top - should : should;
        }

        /** What a part's work is of its inputs in this tick. */
        private int makes(int part) {
            int first = tick * MOST_WIRES;
            int a = parts.x[part] == NONE ? 0 : now[first + parts.x[part]];
            int b = parts.y[part] == NONE ? 0 : now[first + parts.y[part]];
            return parts.made[part * TABLE + 3 * a + b];
        }

        /** Gives all wires the numbers that they should have, up to a tick. */
        void runSound(int last) {
            Arrays.fill(role, AS_DUE);
            Arrays.fill(owed, 0);
            for (int t = 0; t <= last; t++) {
                tick = t;
                for (int at = 0; at < parts.count; at++) {
                    int part = parts.order[at];
                    now[t * MOST_WIRES + parts.drives[part]] = gives(part);
                }
                for (int slot = 0; slot < parts.streamCount; slot++) {
                    owed[parts.streams[slot]] = makes(parts.streams[slot]);
                }
            }
        }
    }

    /** Tries whether all ticks go well, with some parts broken or free. */
    private static final class Trial {
        private final Wires wires;
        private final Parts parts;
        private final Looks looks;
        final Moment moment;
        /** The wires, as bits, on which looks of a tick, or of a later one, depend. */
        private final int[] lookNeeds = new int[MOST_TICKS];
        private final int[] allNeeds = new int[MOST_TICKS];
        private int[] needs = lookNeeds;
        /** The states, as bits, in which a tick may begin; one place more for the end. */
        private final int[] begins = new int[MOST_TICKS + 1];
        /** The states, as bits, that follow each state of each tick. */
        private final int[] follow = new int[MOST_TICKS * STATES];
        /** The broken parts, as bits, whose way has to be chosen. */
        private int toChoose = 0;
        /** The parts, as bits, on which any look depends: no others stand in a story or a quarrel. */
        int concerned = 0;
        private boolean gathering = false;
        private boolean inputsFit = true;

        Trial(Wires wires, Parts parts, Looks looks) {
            this.wires = wires;
            this.parts = parts;
            this.looks = looks;
            moment = new Moment(wires, parts, looks);
            Arrays.fill(allNeeds, -1);
        }

        /** Takes the machine and the looks as they are now. */
        void prepare() {
            System.arraycopy(wires.input, 0, moment.now, 0, PLACES);
            inputsFit = true;
            for (int i = 0; i < looks.count; i++) {
                int place = looks.place[i];
                if (wires.driver[place % MOST_WIRES] == NONE && looks.seen[place] != wires.input[place]) {
                    inputsFit = false;
                }
            }
            int later = 0;
            int ever = 0;
            for (int tick = wires.ticks - 1; tick >= 0; tick--) {
                later = needsOf(tick, later);
                lookNeeds[tick] = later;
                ever |= later;
            }
            concerned = 0;
            for (int p = 0; p < parts.count; p++) {
                concerned |= (ever >> parts.drives[p] & 1) << p;
            }
        }

        private int needsOf(int tick, int later) {
            int bits = 0;
            for (int wire = 0; wire < wires.count; wire++) {
                if (looks.seen[tick * MOST_WIRES + wire] != NONE) {
                    bits |= 1 << wire;
                }
            }
            for (int slot = 0; slot < parts.streamCount; slot++) {
                int stream = parts.streams[slot];
                if ((later >> parts.drives[stream] & 1) != 0) {
                    bits |= 1 << parts.x[stream] | 1 << parts.y[stream];
                }
            }
            for (int at = parts.count - 1; at >= 0; at--) {
                int part = parts.order[at];
                if ((bits >> parts.drives[part] & 1) != 0) {
                    bits |= readBy(part);
                }
            }
            return bits;
        }

        private int readBy(int part) {
            int bits = parts.x[part] == NONE ? 0 : 1 << parts.x[part];
            return parts.y[part] == NONE ? bits : bits | 1 << parts.y[part];
        }

        /** Takes some parts as broken, all others as sound. */
        void takeStory(int broken, boolean gather) {
            gathering = gather;
            needs = gather ? allNeeds : lookNeeds;
            int changing = gather ? broken : broken & concerned;
            toChoose = 0;
            for (int p = 0; p < parts.count; p++) {
                moment.role[p] = AS_DUE;
                if ((changing >> p & 1) != 0) {
                    if (parts.hasWays(p)) {
                        toChoose |= 1 << p;
                    } else {
                        moment.role[p] = FREE;
                    }
                }
            }
        }

        /** Takes some parts and all meters as sound; the others may give any number in each tick. */
        void takeSound(int sound) {
            gathering = false;
            needs = lookNeeds;
            toChoose = 0;
            for (int p = 0; p < parts.count; p++) {
                moment.role[p] = ((sound | parts.meters) >> p & 1) != 0 ? AS_DUE : FREE;
            }
        }

        /**
         * Whether ways can be chosen, from a place of the order on, with which all looks are as seen.
         * While gathering it goes through all of the ways, and answers false.
         */
        boolean search(int from) {
            int at = from;
            while (at < parts.count && (toChoose >> parts.order[at] & 1) == 0) {
                at++;
            }
            // The parts ahead don't depend on the way that is chosen next: often they fail alone.
            if (!inputsFit || !goesWell(at)) {
                return false;
            }
            if (at >= parts.count) {
                if (gathering) {
                    gather();
                }
                return !gathering;
            }
            int part = parts.order[at];
            for (int way = ZERO; way <= PASSED; way <<= 1) {
                if ((parts.ways[part] & way) != 0) {
                    moment.role[part] = way;
                    if (search(at + 1)) {
                        return true;
                    }
                }
            }
            return false;
        }

        /** Whether all ticks can go as seen, of the parts ahead of a place of the order. */
        private boolean goesWell(int end) {
            begins[0] = 1;
            for (int tick = 0; tick < wires.ticks; tick++) {
                int next = begins[tick];
                if (needs[tick] != 0) {
                    enterTick(tick, end);
                    next = 0;
                    for (int state = 0; state < STATES; state++) {
                        if ((begins[tick] >> state & 1) != 0) {
                            int to = moment.reachedFrom(state, end);
                            follow[tick * STATES + state] = to;
                            next |= to;
                        }
                    }
                }
                if (next == 0) {
                    return false;
                }
                begins[tick + 1] = next;
            }
            return true;
        }

        private void enterTick(int tick, int end) {
            int owing = 0;
            int later = tick + 1 < wires.ticks ? needs[tick + 1] : 0;
            for (int at = 0; at < end; at++) {
                int part = parts.order[at];
                int role = moment.role[part];
                boolean owes = parts.kind[part] == STREAM && (role == AS_DUE || role == TURNED);
                if (owes && (later >> parts.drives[part] & 1) != 0) {
                    owing |= part == parts.streams[0] ? 1 : 2;
                }
            }
            moment.enter(tick, needs[tick], owing);
        }

        /** Records the numbers of all wires, where all ticks go well. */
        private void gather() {
            for (int tick = wires.ticks - 1; tick >= 0; tick--) {
                for (int state = 0; state < STATES; state++) {
                    if ((begins[tick] >> state & 1) != 0 && (follow[tick * STATES + state] & begins[tick + 1]) == 0) {
                        begins[tick] &= ~(1 << state);
                    }
                }
            }
            moment.recording = true;
            for (int tick = 0; tick < wires.ticks; tick++) {
                enterTick(tick, parts.count);
                moment.wanted = begins[tick + 1];
                for (int state = 0; state < STATES; state++) {
                    if ((begins[tick] >> state & 1) != 0) {
                        moment.reachedFrom(state, parts.count);
                    }
                }
            }
            moment.recording = false;
        }
    }

    /** What has been found out, until the machine or the looks change. */
    private static final class Findings {
        private final Parts parts;
        private final Trial trial;
        final int[] stories = new int[MOST_SETS];
        private int storyCount = NONE;
        final int[] quarrels = new int[MOST_SETS];
        private int quarrelCount = NONE;
        /** The values of all places for each story. */
        final int[] values = new int[MOST_SETS * PLACES];
        /** The stories, as bits, whose values are known. */
        private long learned = 0;
        private boolean prepared = false;

        Findings(Wires wires, Parts parts, Looks looks) {
            this.parts = parts;
            trial = new Trial(wires, parts, looks);
        }

        void forget() {
            prepared = false;
            storyCount = NONE;
            quarrelCount = NONE;
        }

        private void prepare() {
            if (!prepared) {
                trial.prepare();
                prepared = true;
            }
        }

        /** The numbers that all wires should have up to a tick, tick by tick. */
        int[] numbersDue(int tick) {
            prepare();
            trial.moment.runSound(tick);
            return trial.moment.now;
        }

        boolean doesAgree(int broken) {
            prepare();
            trial.takeStory(broken, false);
            return trial.search(0);
        }

        boolean canBe(int sound) {
            prepare();
            trial.takeSound(sound);
            return trial.search(0);
        }

        int findStories() {
            if (storyCount != NONE) {
                return storyCount;
            }
            prepare();
            learned = 0;
            int suspects = trial.concerned & ~parts.meters & ~parts.sound;
            int count = 0;
            for (int size = 0; size <= MOST_BROKEN; size++) {
                for (int set = 0; set <= suspects; set++) {
                    boolean fits = (set & ~suspects) == 0 && Integer.bitCount(set) == size;
                    if (fits && count < MOST_SETS && !holdsOne(set, stories, count)) {
                        trial.takeStory(set, false);
                        if (trial.search(0)) {
                            stories[count] = set;
                            count++;
                        }
                    }
                }
            }
            storyCount = count;
            return count;
        }

        int findQuarrels() {
            if (quarrelCount != NONE) {
                return quarrelCount;
            }
            prepare();
            int suspects = trial.concerned & ~parts.meters;
            trial.takeSound(suspects);
            // If the looks can be with all parts sound, they can be with any set of them.
            int last = trial.search(0) ? NONE : suspects;
            int count = 0;
            for (int set = 0; set <= last; set++) {
                boolean fits = (set & ~suspects) == 0 && count < MOST_SETS;
                if (fits && !holdsOne(set, quarrels, count)) {
                    trial.takeSound(set);
                    if (!trial.search(0)) {
                        quarrels[count] = set;
                        count++;
                    }
                }
            }
            quarrelCount = count;
            return count;
        }

        private static boolean holdsOne(int set, int[] sets, int count) {
            for (int i = 0; i < count; i++) {
                if ((sets[i] & ~set) == 0) {
                    return true;
                }
            }
            return false;
        }

        /** Finds the values of stories, of one and those behind it up to another. */
        void learn(int from, int to) {
            for (int i = from; i < to; i++) {
                if ((learned >> i & 1) == 0) {
                    Arrays.fill(trial.moment.found, 0);
                    trial.takeStory(stories[i], true);
                    trial.search(0);
                    System.arraycopy(trial.moment.found, 0, values, i * PLACES, PLACES);
                    learned |= 1L << i;
                }
            }
        }

        int worthOf(int place) {
            int sum = 0;
            for (int v = 0; v < 3; v++) {
                int having = 0;
                for (int i = 0; i < storyCount; i++) {
                    having += values[i * PLACES + place] >> v & 1;
                }
                sum += having * having;
            }
            return sum;
        }

        boolean tells(int place) {
            for (int i = 1; i < storyCount; i++) {
                if (values[i * PLACES + place] != values[place]) {
                    return true;
                }
            }
            return false;
        }
    }
}
