import java.util.ArrayList;
import java.util.Collections;
import java.util.HashSet;
import java.util.List;
import java.util.Random;
import java.util.Set;

/**
 * Runs of calls drawn from fixed seeds, on a FaultFinder and on a slow reader of the document that tries every number
 * of every wire. The two share no code; every answer has to be the same.
 */
public final class OracleRuns {
    private static int wrong = 0;
    private static long compared = 0;

    public static void main(String[] args) {
        int runs = args.length > 0 ? Integer.parseInt(args[0]) : 400;
        for (int seed = 1; seed <= runs && wrong < 20; seed++) {
            new Run(seed).go();
        }
        System.out.println(compared + " answers compared, " + wrong + " wrong");
        if (wrong != 0) {
            System.exit(1);
        }
    }

    /** One run of calls on both. */
    private static final class Run {
        private final Random dice;
        private final FaultFinder finder = new FaultFinder();
        private final Oracle oracle = new Oracle();
        private final List<String> told = new ArrayList<>();
        private final int seed;
        private int calls = 0;

        Run(int seed) {
            this.seed = seed;
            dice = new Random(seed * 7919L);
        }

        void go() {
            build();
            for (int round = 0; calls < 500; round++) {
                if (dice.nextInt(10) < 3) {
                    change();
                } else {
                    ask();
                }
            }
        }

        private void build() {
            call("ticks", 1 + dice.nextInt(3));
            int inputs = dice.nextInt(4);
            int wires = Math.min(14, inputs + 2 + dice.nextInt(8));
            for (int w = 0; w < wires; w++) {
                call("wire", 2 + dice.nextInt(2));
            }
            List<Integer> driven = new ArrayList<>();
            for (int w = inputs; w < wires; w++) {
                driven.add(w);
            }
            Collections.shuffle(driven, dice);
            for (int w : driven) {
                // A wire left to itself may be driven later, when something has been found already.
                if (dice.nextInt(8) != 0) {
                    drive(w);
                }
            }
            for (int i = 0; i < 30; i++) {
                shape();
            }
            for (int i = 0; i < 2; i++) {
                lookAbout();
            }
        }

        /** A part that mostly reads wires close to its own, so that parts stand behind one another. */
        private void drive(int wire) {
            int kind = wire == 0 ? 3 : new int[] {0, 0, 0, 0, 1, 1, 1, 2, 2, 3, 4}[dice.nextInt(11)];
            int x = Math.max(0, wire - 1 - dice.nextInt(4));
            int y = Math.max(0, wire - 1 - dice.nextInt(4));
            call("part", 10 * kind + dice.nextInt(6), wire, x, y);
        }

        private void shape() {
            int part = dice.nextInt(Math.max(1, oracle.parts.size()));
            int wire = dice.nextInt(Math.max(1, oracle.ranges.size()));
            int tick = dice.nextInt(oracle.ticks);
            switch (dice.nextInt(5)) {
                case 0: call("table", part, dice.nextInt(9), dice.nextInt(3)); break;
                case 1: call("ways", part, 1 + dice.nextInt(15)); break;
                case 2: call("odds", part, 1 + dice.nextInt(9)); break;
                case 3: call("price", wire, 1 + dice.nextInt(9)); break;
                default:
                    if (oracle.seen(tick, wire) == -1) {
                        call("set", tick, wire, dice.nextInt(3));
                    }
                    break;
            }
        }

        /** A look, at an input mostly as it is, at other wires often not as due. */
        private void lookAbout() {
            int tick = dice.nextInt(oracle.ticks);
            int wires = oracle.ranges.size();
            int wire = Math.max(dice.nextInt(Math.max(1, wires)), dice.nextInt(Math.max(1, wires)));
            int v = dice.nextInt(3);
            if (wire < wires) {
                v %= oracle.ranges.get(wire);
                if (dice.nextInt(oracle.driver(wire) == null ? 40 : 2) != 0) {
                    v = oracle.dueNow(tick, wire);
                }
            }
            call("see", tick, wire, v);
        }

        private void change() {
            if (oracle.looks.size() > 2 + seed % 5 && dice.nextInt(40) != 0) {
                call("unsee");
                return;
            }
            switch (dice.nextInt(30)) {
                case 0: call("wire", odd(2, 3)); break;
                case 1: drive(dice.nextInt(14)); break;
                case 2: call("part", dice.nextInt(70) - 10, odd(0, 13), odd(0, 13), odd(0, 13)); break;
                case 3: call("table", odd(0, 6), odd(0, 8), odd(0, 2)); break;
                case 4: call("ways", odd(0, 6), odd(1, 15)); break;
                case 5: call("odds", odd(0, 6), odd(1, 9)); break;
                case 6: call("price", odd(0, 13), odd(1, 9)); break;
                case 7: case 8: call("sound", odd(0, 6), dice.nextInt(4) == 0 ? 1 : 0); break;
                case 9: call(dice.nextInt(4) == 0 ? "ticks" : "unsee", odd(1, 3)); break;
                case 10: call(dice.nextInt(4) == 0 ? "set" : "see", odd(0, 2), odd(0, 13), odd(0, 2)); break;
                case 11: case 12: case 13: case 14: case 15: case 16: shape(); break;
                case 17: case 18: case 19: call("unsee"); break;
                default: lookAbout(); break;
            }
        }

        private void ask() {
            int stories = Math.max(1, oracle.theStories().size());
            switch (dice.nextInt(24)) {
                case 0: call("look", odd(0, 6), odd(0, 7)); break;
                case 1: call("count", odd(0, 5), odd(0, 13)); break;
                case 2: call("due", tick(), wire()); break;
                case 3: case 4: call("stories"); break;
                case 5: case 6: call("story", odd(0, stories - 1)); break;
                case 7: call("agrees", set()); break;
                case 8: call("weigh", set()); break;
                case 9: call("likely"); break;
                case 10: call("chance", odd(0, 6), dice.nextInt(2)); break;
                case 11: call("quarrels"); break;
                case 12: call("quarrel", odd(0, Math.max(0, oracle.theQuarrels().size() - 1))); break;
                case 13: call("judge", set()); break;
                case 14: case 15: call("values", tick(), wire(), odd(0, stories - 1)); break;
                case 16: call("worth", tick(), wire()); break;
                case 17: call("next"); break;
                case 18: case 19: call("apart", odd(0, stories - 1), odd(0, stories - 1)); break;
                case 20: call("lay", tick()); break;
                case 21: call("row", wire()); call("status", odd(-8, -2)); break;
                case 22: call("copy", odd(0, 8), odd(0, 8), odd(0, 8)); break;
                default: call("tear"); call("lay", tick()); break;
            }
        }

        private int tick() {
            return odd(0, oracle.ticks - 1);
        }

        private int wire() {
            return odd(0, Math.max(0, oracle.ranges.size() - 1));
        }

        /** A number of a span, at times one beyond it. */
        private int odd(int least, int most) {
            int d = dice.nextInt(40);
            if (d == 0) {
                return dice.nextBoolean() ? Integer.MAX_VALUE : Integer.MIN_VALUE;
            }
            if (d == 1) {
                return most + 1 + dice.nextInt(3);
            }
            if (d == 2) {
                return least - 1;
            }
            return least + dice.nextInt(most - least + 1);
        }

        private int set() {
            int known = (1 << oracle.parts.size()) - 1;
            int spared = dice.nextBoolean() ? oracle.meters() : 0;
            return dice.nextInt(8) == 0 ? odd(0, 127) : dice.nextInt(128) & known & ~spared;
        }

        private void call(String name, int... a) {
            calls++;
            StringBuilder text = new StringBuilder(name).append('(');
            for (int i = 0; i < a.length; i++) {
                text.append(i > 0 ? ", " : "").append(a[i]);
            }
            told.add(text.append(')').toString());
            long got = onFinder(name, a);
            long want = oracle.call(name, a);
            compared++;
            if (got != want) {
                wrong++;
                System.out.println("seed " + seed + ", call " + calls + ": " + text + " answered " + got
                        + ", due is " + want);
                if (wrong == 1) {
                    System.out.println(String.join("; ", told));
                }
            }
        }

        private long onFinder(String name, int[] a) {
            switch (name) {
                case "wire": return finder.wire(a[0]);
                case "part": return finder.part(a[0], a[1], a[2], a[3]);
                case "table": return finder.table(a[0], a[1], a[2]);
                case "ways": return finder.ways(a[0], a[1]);
                case "odds": return finder.odds(a[0], a[1]);
                case "price": return finder.price(a[0], a[1]);
                case "ticks": return finder.ticks(a[0]);
                case "set": return finder.set(a[0], a[1], a[2]);
                case "sound": return finder.sound(a[0], a[1] == 1);
                case "look": return finder.look(a[0], a[1]);
                case "count": return finder.count(a[0], a[1]);
                case "see": return finder.see(a[0], a[1], a[2]);
                case "unsee": return finder.unsee();
                case "due": return finder.due(a[0], a[1]);
                case "stories": return finder.stories();
                case "story": return finder.story(a[0]);
                case "agrees": return finder.agrees(a[0]);
                case "weigh": return finder.weigh(a[0]);
                case "likely": return finder.likely();
                case "chance": return finder.chance(a[0], a[1] == 1);
                case "quarrels": return finder.quarrels();
                case "quarrel": return finder.quarrel(a[0]);
                case "judge": return finder.judge(a[0]);
                case "values": return finder.values(a[0], a[1], a[2]);
                case "worth": return finder.worth(a[0], a[1]);
                case "next": return finder.next();
                case "apart": return finder.apart(a[0], a[1]);
                case "lay": return finder.lay(a[0]);
                case "tear": return finder.tear();
                case "row": return finder.row(a[0]);
                case "copy": return finder.copy(a[0], a[1], a[2]);
                case "status": return finder.status(a[0]);
                default: throw new IllegalStateException(name);
            }
        }
    }

    private static final class Part {
        int kind;
        int work;
        int wire;
        int x;
        int y;
        int ways;
        int odds = 1;
        boolean sound;
        final int[] table = new int[9];
    }

    /** The document, read as plainly as can be. */
    private static final class Oracle {
        private static final int SOUND = 0;
        private static final int BROKEN = 1;
        private static final int ANY = 2;

        final List<Integer> ranges = new ArrayList<>();
        final List<Integer> prices = new ArrayList<>();
        final List<Part> parts = new ArrayList<>();
        final List<int[]> looks = new ArrayList<>();
        final int[][] told = new int[3][14];
        final int[] refusals = new int[9];
        int ticks = 1;
        int[] row = null;
        private List<Integer> storiesKept;
        private List<Integer> quarrelsKept;

        long call(String name, int[] a) {
            long answer = answerTo(name, a);
            boolean aside = name.equals("weigh") || name.equals("chance");
            if (!aside && answer <= -2 && answer >= -8) {
                refusals[(int) -answer]++;
            }
            return answer;
        }

        private long answerTo(String name, int[] a) {
            switch (name) {
                case "wire": case "part": case "table": case "ways": case "odds": case "price": case "ticks":
                case "set": case "sound": case "see": case "unsee":
                    storiesKept = null;
                    quarrelsKept = null;
                    return change(name, a);
                case "lay": case "tear": case "row": case "copy": case "status":
                    return rows(name, a);
                default:
                    return ask(name, a);
            }
        }

        private boolean noWire(int w) {
            return w < 0 || w >= ranges.size();
        }

        private boolean noPart(int p) {
            return p < 0 || p >= parts.size();
        }

        private boolean noTick(int t) {
            return t < 0 || t >= ticks;
        }

        private boolean not(int v, int least, int most) {
            return v < least || v > most;
        }

        private Part driver(int w) {
            for (Part p : parts) {
                if (p.wire == w) {
                    return p;
                }
            }
            return null;
        }

        int meters() {
            int bits = 0;
            for (int p = 0; p < parts.size(); p++) {
                if (parts.get(p).kind == 4) {
                    bits |= 1 << p;
                }
            }
            return bits;
        }

        private long change(String name, int[] a) {
            int before;
            switch (name) {
                case "wire":
                    if (not(a[0], 2, 3)) return -7;
                    if (ranges.size() == 14) return -8;
                    ranges.add(a[0]);
                    prices.add(1);
                    return ranges.size() - 1;
                case "part":
                    return addPart(a[0], a[1], a[2], a[3]);
                case "table":
                    if (noPart(a[0]) || not(a[1], 0, 8)) return -3;
                    if (parts.get(a[0]).kind == 4) return -5;
                    if (not(a[2], 0, 2)) return -7;
                    before = parts.get(a[0]).table[a[1]];
                    parts.get(a[0]).table[a[1]] = a[2];
                    return before;
                case "ways":
                    if (noPart(a[0])) return -3;
                    if (not(parts.get(a[0]).kind, 1, 2)) return -5;
                    if (not(a[1], 1, 15)) return -7;
                    before = parts.get(a[0]).ways;
                    parts.get(a[0]).ways = a[1];
                    return before;
                case "odds":
                    if (noPart(a[0])) return -3;
                    if (parts.get(a[0]).kind == 4) return -5;
                    if (not(a[1], 1, 9)) return -7;
                    before = parts.get(a[0]).odds;
                    parts.get(a[0]).odds = a[1];
                    return before;
                case "price":
                    if (noWire(a[0])) return -3;
                    if (not(a[1], 1, 9)) return -7;
                    return prices.set(a[0], a[1]);
                case "ticks":
                    if (not(a[0], 1, 3)) return -7;
                    before = ticks;
                    ticks = a[0];
                    looks.removeIf(l -> l[0] >= ticks);
                    for (int t = ticks; t < 3; t++) {
                        told[t] = new int[14];
                    }
                    return before;
                case "set":
                    if (noTick(a[0]) || noWire(a[1])) return -3;
                    if (driver(a[1]) != null) return -5;
                    if (not(a[2], 0, ranges.get(a[1]) - 1)) return -7;
                    before = told[a[0]][a[1]];
                    told[a[0]][a[1]] = a[2];
                    return before;
                case "sound":
                    if (noPart(a[0])) return -3;
                    if (parts.get(a[0]).kind == 4) return -5;
                    boolean was = parts.get(a[0]).sound;
                    parts.get(a[0]).sound = a[1] == 1;
                    return was ? 1 : 0;
                case "see":
                    if (noTick(a[0]) || noWire(a[1])) return -3;
                    if (not(a[2], 0, ranges.get(a[1]) - 1) || seen(a[0], a[1]) != -1) return -7;
                    if (looks.size() == 16) return -8;
                    looks.add(a.clone());
                    return looks.size();
                default:
                    if (looks.isEmpty()) return -2;
                    looks.remove(looks.size() - 1);
                    return looks.size();
            }
        }

        private long addPart(int told, int wire, int x, int y) {
            boolean source = told >= 30 && told <= 39;
            boolean meter = told >= 40 && told <= 49;
            if (noWire(wire)) return -3;
            if (told < 0 || told >= 50) return -7;
            if (!source && noWire(x)) return -3;
            if (!source && !meter && noWire(y)) return -3;
            if (!source && !meter && told % 10 > 5) return -7;
            if (!source && x >= wire) return -7;
            if (!source && !meter && y >= wire) return -7;
            if (driver(wire) != null) return -7;
            if (parts.size() == 7) return -8;
            if (told / 10 == 2 && parts.stream().filter(p -> p.kind == 2).count() == 2) return -8;
            Part p = new Part();
            p.kind = told / 10;
            p.work = source || meter ? 0 : told % 10;
            p.wire = wire;
            p.x = source ? -1 : x;
            p.y = source || meter ? -1 : y;
            p.ways = p.kind == 1 || p.kind == 2 ? 1 : 0;
            parts.add(p);
            return parts.size() - 1;
        }

        private int seen(int tick, int wire) {
            for (int[] l : looks) {
                if (l[0] == tick && l[1] == wire) {
                    return l[2];
                }
            }
            return -1;
        }

        private long rows(String name, int[] a) {
            switch (name) {
                case "lay":
                    if (noTick(a[0])) return -3;
                    row = new int[ranges.size()];
                    for (int w = 0; w < row.length; w++) {
                        row[w] = dueNow(a[0], w);
                    }
                    return row.length;
                case "tear":
                    int was = row == null ? 0 : 1;
                    row = null;
                    return was;
                case "row":
                    if (row == null) return -2;
                    if (not(a[0], 0, row.length - 1)) return -3;
                    return row[a[0]];
                case "copy":
                    if (row == null) return -2;
                    if (a[2] < 0) return -4;
                    if (a[0] < 0 || a[1] < 0 || (long) a[0] + a[2] > row.length || (long) a[1] + a[2] > row.length) {
                        return -6;
                    }
                    int[] old = row.clone();
                    for (int k = 0; k < a[2]; k++) {
                        row[a[1] + k] = old[a[0] + k];
                    }
                    return a[2];
                default:
                    if (not(a[0], -8, -2)) return -7;
                    return refusals[-a[0]];
            }
        }

        private long ask(String name, int[] a) {
            switch (name) {
                case "look":
                    if (noPart(a[0])) return -3;
                    Part p = parts.get(a[0]);
                    int[] facts = {p.kind, p.work, p.wire, p.x, p.y, p.ways, p.odds, p.sound ? 1 : 0};
                    return not(a[1], 0, 7) ? -7 : facts[a[1]];
                case "count":
                    if (not(a[0], 0, 5)) return -7;
                    if (a[0] > 3 && noWire(a[1])) return -3;
                    if (a[0] == 4) return parts.indexOf(driver(a[1]));
                    if (a[0] == 5) return ranges.get(a[1]);
                    return new int[] {ranges.size(), parts.size(), ticks, looks.size()}[a[0]];
                case "due":
                    return noTick(a[0]) || noWire(a[1]) ? -3 : dueNow(a[0], a[1]);
                case "stories":
                    return theStories().size();
                case "story":
                    return not(a[0], 0, theStories().size() - 1) ? -3 : theStories().get(a[0]);
                case "agrees":
                    if (noSet(a[0])) return -3;
                    if ((a[0] & untouched()) != 0) return -7;
                    return storyAgrees(a[0]) ? 1 : 0;
                case "weigh":
                    if (noSet(a[0])) return aside(3);
                    if ((a[0] & meters()) != 0) return aside(7);
                    return weightOf(a[0]);
                case "likely":
                    return mostLikely();
                case "chance":
                    return chanceOf(a[0], a[1] == 1);
                case "quarrels":
                    return theQuarrels().size();
                case "quarrel":
                    return not(a[0], 0, theQuarrels().size() - 1) ? -3 : theQuarrels().get(a[0]);
                case "judge":
                    if (noSet(a[0])) return -3;
                    if ((a[0] & meters()) != 0) return -7;
                    if (canBe(a[0])) return 0;
                    return isMinimal(a[0]) ? 2 : 1;
                case "values":
                    if (noTick(a[0]) || noWire(a[1]) || not(a[2], 0, theStories().size() - 1)) return -3;
                    return valuesOf(a[0], a[1], theStories().get(a[2]));
                case "worth":
                    return noTick(a[0]) || noWire(a[1]) ? -3 : worthOf(a[0], a[1]);
                case "next":
                    return nextLook();
                default:
                    int most = theStories().size() - 1;
                    return not(a[0], 0, most) || not(a[1], 0, most) ? -3 : parting(a[0], a[1]);
            }
        }

        private long aside(int by) {
            refusals[by]++;
            return 0;
        }

        private boolean noSet(int bits) {
            return bits < 0 || bits >= 1 << parts.size();
        }

        private int untouched() {
            int bits = meters();
            for (int p = 0; p < parts.size(); p++) {
                if (parts.get(p).sound) {
                    bits |= 1 << p;
                }
            }
            return bits;
        }

        int dueNow(int tick, int wire) {
            Part p = driver(wire);
            if (p == null) {
                return told[tick][wire];
            }
            if (p.kind == 3) {
                return p.table[0] % ranges.get(wire);
            }
            if (p.kind == 4) {
                return dueNow(tick, p.x) % ranges.get(wire);
            }
            if (p.kind == 2) {
                return tick == 0 ? 0 : worked(p, dueNow(tick - 1, p.x), dueNow(tick - 1, p.y));
            }
            return worked(p, dueNow(tick, p.x), dueNow(tick, p.y));
        }

        private int worked(Part p, int a, int b) {
            int[] results = {a + b, a * b, Math.max(a, b), Math.min(a, b), a == b ? 1 : 0, p.table[3 * a + b]};
            return results[p.work] % ranges.get(p.wire);
        }

        /** How the parts are taken, the ways that broken ones have, a place whose number is asked for. */
        private int[] modes;
        private int[] chosen;
        private final Set<String> failed = new HashSet<>();
        private int askedTick;
        private int askedWire;
        private int askedNumber;

        private boolean possible(int tick, int wire, int v) {
            askedTick = tick;
            askedWire = wire;
            askedNumber = v;
            chosen = new int[parts.size()];
            return choose(0);
        }

        private boolean choose(int p) {
            if (p == parts.size()) {
                failed.clear();
                return fill(0, new int[3][14]);
            }
            Part part = parts.get(p);
            if (modes[p] != BROKEN || part.ways == 0) {
                return choose(p + 1);
            }
            for (int way = 1; way <= 8; way *= 2) {
                chosen[p] = way;
                if ((part.ways & way) != 0 && choose(p + 1)) {
                    return true;
                }
            }
            return false;
        }

        private boolean fill(int cell, int[][] at) {
            int wires = ranges.size();
            if (cell == ticks * wires) {
                return true;
            }
            int t = cell / wires;
            int w = cell % wires;
            // A tick knows of earlier ones only by what streams read in the one before: no need to fail at it twice.
            String past = w == 0 ? readByStreams(t, at) : "";
            if (w == 0 && failed.contains(past)) {
                return false;
            }
            for (int v = 0; v < ranges.get(w); v++) {
                if (mayGive(t, w, v, at) && asSeen(t, w, v)) {
                    at[t][w] = v;
                    if (fill(cell + 1, at)) {
                        return true;
                    }
                }
            }
            if (w == 0) {
                failed.add(past);
            }
            return false;
        }

        private String readByStreams(int t, int[][] at) {
            StringBuilder text = new StringBuilder().append(t);
            for (Part p : parts) {
                if (t > 0 && p.kind == 2) {
                    text.append(' ').append(at[t - 1][p.x]).append(at[t - 1][p.y]);
                }
            }
            return text.toString();
        }

        private boolean asSeen(int t, int w, int v) {
            Part p = driver(w);
            int s = seen(t, w);
            boolean meter = p != null && p.kind == 4;
            if (s != -1 && Math.abs(s - v) > (meter ? 1 : 0)) {
                return false;
            }
            return t != askedTick || w != askedWire || v == askedNumber;
        }

        private boolean mayGive(int t, int w, int v, int[][] at) {
            Part p = driver(w);
            if (p == null) {
                return v == told[t][w];
            }
            int r = ranges.get(w);
            int mode = modes[parts.indexOf(p)];
            if (p.kind == 4) {
                return v == at[t][p.x] % r;
            }
            if (mode == ANY || (mode == BROKEN && p.ways == 0)) {
                return true;
            }
            int should;
            if (p.kind == 3) {
                should = p.table[0] % r;
            } else if (p.kind == 2) {
                should = t == 0 ? 0 : worked(p, at[t - 1][p.x], at[t - 1][p.y]);
            } else {
                should = worked(p, at[t][p.x], at[t][p.y]);
            }
            if (mode == SOUND) {
                return v == should;
            }
            switch (chosen[parts.indexOf(p)]) {
                case 1: return v == 0;
                case 2: return v == r - 1;
                case 4: return v == r - 1 - should;
                default: return v == at[t][p.x] % r;
            }
        }

        private boolean storyAgrees(int broken) {
            return storyAgrees(broken, -1, -1, -1);
        }

        private boolean storyAgrees(int broken, int tick, int wire, int v) {
            modes = new int[parts.size()];
            for (int p = 0; p < parts.size(); p++) {
                modes[p] = (broken >> p & 1) == 1 ? BROKEN : SOUND;
            }
            return possible(tick, wire, v);
        }

        private boolean canBe(int sound) {
            modes = new int[parts.size()];
            for (int p = 0; p < parts.size(); p++) {
                modes[p] = (sound >> p & 1) == 1 ? SOUND : ANY;
            }
            return possible(-1, -1, -1);
        }

        private List<Integer> theStories() {
            if (storiesKept != null) {
                return storiesKept;
            }
            List<Integer> all = new ArrayList<>();
            boolean[] agreeing = new boolean[128];
            for (int set = 0; set < 1 << parts.size(); set++) {
                agreeing[set] = Integer.bitCount(set) <= 3 && (set & untouched()) == 0 && storyAgrees(set);
            }
            for (int size = 0; size <= 3; size++) {
                for (int set = 0; set < 1 << parts.size(); set++) {
                    if (Integer.bitCount(set) == size && agreeing[set]) {
                        boolean least = true;
                        for (int sub = 0; sub < set; sub++) {
                            least &= (sub & set) != sub || !agreeing[sub];
                        }
                        if (least) {
                            all.add(set);
                        }
                    }
                }
            }
            storiesKept = all;
            return all;
        }

        private boolean isMinimal(int set) {
            for (int p = 0; p < parts.size(); p++) {
                if ((set >> p & 1) == 1 && !canBe(set & ~(1 << p))) {
                    return false;
                }
            }
            return true;
        }

        private List<Integer> theQuarrels() {
            if (quarrelsKept != null) {
                return quarrelsKept;
            }
            List<Integer> all = new ArrayList<>();
            for (int set = 0; set < 1 << parts.size(); set++) {
                if ((set & meters()) == 0 && !canBe(set) && isMinimal(set)) {
                    all.add(set);
                }
            }
            quarrelsKept = all;
            return all;
        }

        private long weightOf(int set) {
            long product = 1;
            for (int p = 0; p < parts.size(); p++) {
                Part part = parts.get(p);
                if (part.kind != 4) {
                    product *= (set >> p & 1) == 1 ? part.odds : 10 - part.odds;
                }
            }
            return product;
        }

        private long mostLikely() {
            List<Integer> all = theStories();
            int best = -2;
            for (int i = 0; i < all.size(); i++) {
                if (best < 0 || weightOf(all.get(i)) > weightOf(all.get(best))) {
                    best = i;
                }
            }
            return best;
        }

        private long chanceOf(int part, boolean lower) {
            if (noPart(part)) return aside(3);
            List<Integer> all = theStories();
            if (all.isEmpty()) return aside(2);
            long with = 0;
            long sum = 0;
            for (int s : all) {
                sum += weightOf(s);
                with += (s >> part & 1) * weightOf(s);
            }
            long d = java.math.BigInteger.valueOf(with).gcd(java.math.BigInteger.valueOf(sum)).longValue();
            return (lower ? sum : with) / d;
        }

        private int valuesOf(int tick, int wire, int story) {
            int bits = 0;
            for (int v = 0; v < ranges.get(wire); v++) {
                if (storyAgrees(story, tick, wire, v)) {
                    bits |= 1 << v;
                }
            }
            return bits;
        }

        private int worthOf(int tick, int wire) {
            int[] n = new int[3];
            for (int s : theStories()) {
                int bits = valuesOf(tick, wire, s);
                for (int v = 0; v < 3; v++) {
                    n[v] += bits >> v & 1;
                }
            }
            return n[0] * n[0] + n[1] * n[1] + n[2] * n[2];
        }

        private boolean tells(int tick, int wire) {
            return theStories().stream().map(s -> valuesOf(tick, wire, s)).distinct().count() > 1;
        }

        private boolean metered(int wire) {
            return driver(wire) != null && driver(wire).kind == 4;
        }

        private int nextLook() {
            int best = -1;
            int least = Integer.MAX_VALUE;
            for (int t = 0; t < ticks; t++) {
                for (int w = 0; w < ranges.size(); w++) {
                    if (!metered(w) && tells(t, w) && worthOf(t, w) * prices.get(w) < least) {
                        least = worthOf(t, w) * prices.get(w);
                        best = 100 * t + w;
                    }
                }
            }
            return best;
        }

        private int parting(int i, int j) {
            for (int t = 0; t < ticks; t++) {
                for (int w = 0; w < ranges.size(); w++) {
                    int common = valuesOf(t, w, theStories().get(i)) & valuesOf(t, w, theStories().get(j));
                    if (!metered(w) && common == 0) {
                        return 100 * t + w;
                    }
                }
            }
            return -1;
        }
    }
}
