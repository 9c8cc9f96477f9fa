/**
 * The sentences of the document's terms that name a boundary: what is there at first, the last that there is room for,
 * the first and the last number of a span, what is empty. Each has a test of its own, by its own words.
 */
public final class BoundaryTests {
    private static final int NONE = -1;
    private static final int MISSING = -2;
    private static final int BEYOND = -3;
    private static final int KIND = -5;
    private static final int NO = -7;
    private static final int FULL = -8;

    private static final int ZERO = 1;
    private static final int TOP = 2;
    private static final int TURNED = 4;
    private static final int PASSED = 8;

    private static int wrong = 0;
    private static int checked = 0;
    private static String sentence = "";

    private static void says(String words) {
        sentence = words;
    }

    private static void due(String what, long got, long want) {
        checked++;
        if (got != want) {
            wrong++;
            System.out.println("\"" + sentence + "\": " + what + " answered " + got + ", due is " + want);
        }
    }

    public static void main(String[] args) {
        atFirst();
        theMachine();
        kinds();
        ticksAndLooks();
        storiesAndQuarrels();
        valuesAndWorth();
        foundAnew();
        rows();
        calls();
        System.out.println(checked + " answers checked, " + wrong + " wrong");
        if (wrong != 0) {
            System.exit(1);
        }
    }

    /** Wires of a range. */
    private static FaultFinder wires(int n, int range) {
        FaultFinder f = new FaultFinder();
        for (int w = 0; w < n; w++) {
            f.wire(range);
        }
        return f;
    }

    /** An input, and one part on wire 1 that reads it twice; both wires of a range. */
    private static FaultFinder one(int told, int range) {
        FaultFinder f = wires(2, range);
        f.part(told, 1, 0, 0);
        return f;
    }

    /** Sources 0 .. n - 1 on wires of the same numbers, each of which should give 0. */
    private static FaultFinder sources(int n) {
        FaultFinder f = wires(n, 3);
        for (int p = 0; p < n; p++) {
            f.part(30, p, 0, 0);
        }
        return f;
    }

    /** Whether a set agrees with a look, which is taken back. */
    private static int agreesIfSeen(FaultFinder f, int set, int tick, int wire, int v) {
        f.see(tick, wire, v);
        int answer = f.agrees(set);
        f.unsee();
        return answer;
    }

    // ---- what is there at first

    private static void atFirst() {
        says("No WIRES, PARTS, LOOKS");
        FaultFinder f = new FaultFinder();
        due("WIRES", f.count(0, 0), 0);
        due("PARTS", f.count(1, 0), 0);
        due("LOOKS", f.count(3, 0), 0);
        due("unsee()", f.unsee(), MISSING);
        due("stories()", f.stories(), 1);
        due("story(0)", f.story(0), 0);
        due("quarrels()", f.quarrels(), 0);
        due("likely()", f.likely(), 0);
        due("weigh(0)", f.weigh(0), 1);
        due("agrees(0)", f.agrees(0), 1);
        due("judge(0)", f.judge(0), 0);
        due("next()", f.next(), NONE);
        due("apart(0, 0)", f.apart(0, 0), NONE);
        says("T 1 .. 3; 1 at first");
        due("T", f.count(2, 0), 1);
        says("at first it is missing");
        due("row(0)", f.row(0), MISSING);
        due("tear()", f.tear(), 0);
        partAtFirst();
        says("1 .. 9; 1 at first");
        due("PRICE", wires(1, 2).price(0, 5), 1);
        says("How many calls were refused");
        for (int by = FULL; by <= MISSING; by++) {
            due("status(" + by + ")", new FaultFinder().status(by), 0);
        }
    }

    private static void partAtFirst() {
        for (int kind = 0; kind <= 4; kind++) {
            FaultFinder f = one(10 * kind, 3);
            says("ODDS (1 .. 9; 1 at first)");
            due("ODDS of KIND " + kind, f.look(0, 6), 1);
            says("bits, 1 .. 15; 1 at first");
            due("WAYS of KIND " + kind, f.look(0, 5), kind == 1 || kind == 2 ? 1 : 0);
            says("whether it is told to be SOUND");
            due("SOUND of KIND " + kind, f.look(0, 7), 0);
            says("its TABLE's number at 3 a + b (0 at first)");
            for (int at = 0; at < 9 && kind != 4; at++) {
                due("TABLE of KIND " + kind + " at " + at, f.table(0, at, 2), 0);
            }
        }
    }

    // ---- the machine

    private static void theMachine() {
        wireNumbers();
        ranges();
        partNumbers();
        partsInAnyOrder();
        drivenOnce();
        lesserInputs();
        inputs();
        moduloTheRange();
        tablePlaces();
        oddsAndPrices();
    }

    private static void wireNumbers() {
        says("WIRES 0 .. 13 as they come");
        FaultFinder f = new FaultFinder();
        for (int w = 0; w <= 13; w++) {
            due("a wire ahead of it", f.price(w, 1), BEYOND);
            due("wire(3)", f.wire(3), w);
            due("count(0, 0)", f.count(0, 0), w + 1);
        }
        due("wire(3)", f.wire(3), FULL);
        due("count(0, 0)", f.count(0, 0), 14);
        due("set at 13", f.set(0, 13, 2), 0);
        due("price of 13", f.price(13, 9), 1);
        due("see at 13", f.see(0, 13, 2), 1);
        due("due at 13", f.due(0, 13), 2);
        due("values at 13", f.values(0, 13, 0), 4);
        due("part on 13", f.part(0, 13, 12, 12), 0);
        due("worth at 13", f.worth(0, 13), 1);
        due("at 14", f.due(0, 14), BEYOND);
    }

    private static void ranges() {
        says("each with a RANGE R (2 or 3): numbers 0 .. R - 1");
        FaultFinder f = new FaultFinder();
        due("wire(1)", f.wire(1), NO);
        due("wire(4)", f.wire(4), NO);
        for (int range = 2; range <= 3; range++) {
            int w = f.wire(range);
            due("RANGE", f.count(5, w), range);
            due("set to -1", f.set(0, w, -1), NO);
            due("set to R", f.set(0, w, range), NO);
            due("set to R - 1", f.set(0, w, range - 1), 0);
            due("set to 0", f.set(0, w, 0), range - 1);
            due("see -1", f.see(0, w, -1), NO);
            due("see R", f.see(0, w, range), NO);
            due("see R - 1", f.see(0, w, range - 1), 1);
            f.unsee();
            due("see 0", f.see(0, w, 0), 1);
            f.unsee();
            FaultFinder broken = wires(1, range);
            broken.part(30, 0, 0, 0);
            broken.see(0, 0, range - 1);
            broken.ticks(2);
            due("numbers that a broken part may give", broken.values(1, 0, 0), (1 << range) - 1);
        }
    }

    private static void partNumbers() {
        says("PARTS 0 .. 6 as they come");
        FaultFinder f = wires(9, 3);
        for (int p = 0; p <= 6; p++) {
            due("a part ahead of it", f.look(p, 0), BEYOND);
            due("bits ahead of it", f.agrees(1 << p), BEYOND);
            due("part", f.part(0, 8 - p, 0, 0), p);
            due("count(1, 0)", f.count(1, 0), p + 1);
        }
        due("part", f.part(0, 1, 0, 0), FULL);
        due("count(1, 0)", f.count(1, 0), 7);
        due("wire of 6", f.look(6, 2), 2);
        due("odds of 6", f.odds(6, 9), 1);
        due("table of 6", f.table(6, 8, 1), 0);
        due("sound of 6", f.sound(6, true), 0);
        due("not any more", f.sound(6, false), 1);
        f.see(0, 2, 1);
        due("story(0)", f.story(0), 64);
        due("quarrel(0)", f.quarrel(0), 64);
        due("judge(64)", f.judge(64), 2);
        due("judge(127)", f.judge(127), 1);
        due("agrees(127)", f.agrees(127), 1);
        due("weigh(64)", f.weigh(64), 9 * 9 * 9 * 9 * 9 * 9 * 9);
        due("chance(6, false)", f.chance(6, false), 1);
        due("chance(7, true)", f.chance(7, true), 0);
        due("agrees(128)", f.agrees(128), BEYOND);
    }

    private static void partsInAnyOrder() {
        says("PARTS as they come, on whatever WIRES");
        for (int turn = 0; turn < 256; turn++) {
            int[] order = {turn & 3, turn >> 2 & 3, turn >> 4 & 3, turn >> 6};
            if ((1 << order[0] | 1 << order[1] | 1 << order[2] | 1 << order[3]) == 15) {
                inOrder(order);
            }
        }
    }

    /** A chain on wires 1 .. 4, each of them 1 more than the one ahead, whose parts come in some order. */
    private static void inOrder(int[] order) {
        FaultFinder f = wires(6, 3);
        f.part(30, 0, 0, 0);
        f.table(0, 0, 1);
        for (int p = 0; p < 4; p++) {
            f.part(15, 1 + order[p], order[p], order[p]);
            for (int a = 0; a < 3; a++) {
                f.table(1 + p, 4 * a, (a + 1) % 3);
            }
        }
        for (int w = 0; w <= 4; w++) {
            due("due at wire " + w, f.due(0, w), (1 + w) % 3);
        }
        f.see(0, 4, 0);
        for (int p = 0; p < 4; p++) {
            int w = 1 + order[p];
            due("0 from wire " + w + " on, 1 more at each", f.agrees(2 << p), (4 - w) % 3 == 0 ? 1 : 0);
        }
    }

    private static void drivenOnce() {
        says("a WIRE that it DRIVES (no other PART does)");
        for (int told : new int[] {0, 10, 20, 30, 40}) {
            FaultFinder f = wires(3, 2);
            due("the first", f.part(0, 1, 0, 0), 0);
            due("another one", f.part(told, 1, 0, 0), NO);
            due("its driver", f.count(4, 1), 0);
            due("on another wire", f.part(told, 2, 0, 0), 1);
        }
    }

    private static void lesserInputs() {
        says("inputs x, y: WIRES of lesser numbers than that");
        for (int told : new int[] {0, 10, 20}) {
            FaultFinder f = wires(4, 2);
            due("x the same", f.part(told, 2, 2, 0), NO);
            due("x greater", f.part(told, 2, 3, 0), NO);
            due("y the same", f.part(told, 2, 0, 2), NO);
            due("y greater", f.part(told, 2, 0, 3), NO);
            due("of wire 0 there are none", f.part(told, 0, 0, 0), NO);
            due("both 1 less", f.part(told, 2, 1, 1), 0);
            due("x", f.look(0, 3), 1);
            due("y", f.look(0, 4), 1);
            due("the least", f.part(told, 1, 0, 0), 1);
        }
        FaultFinder f = wires(3, 2);
        due("x of a METER the same", f.part(40, 1, 1, 0), NO);
        due("x of a METER greater", f.part(40, 1, 2, 0), NO);
        due("a METER on wire 0", f.part(40, 0, 0, 0), NO);
        due("x of a METER 1 less", f.part(40, 1, 0, 2), 0);
        due("a SOURCE on wire 0", f.part(30, 0, 2, 2), 1);
        due("x of a SOURCE", f.look(1, 3), NONE);
        due("y of a SOURCE", f.look(1, 4), NONE);
        due("y of a METER", f.look(0, 4), NONE);
    }

    private static void inputs() {
        says("A WIRE that no PART DRIVES is an INPUT");
        FaultFinder f = wires(3, 3);
        for (int w = 0; w < 3; w++) {
            due("its driver", f.count(4, w), NONE);
            due("set", f.set(0, w, 2), 0);
        }
        f.part(0, 1, 0, 0);
        due("driven", f.set(0, 1, 0), KIND);
        due("what it was told is of no use", f.due(0, 1), 1);
        due("behind it there may be another", f.set(0, 2, 1), 2);
        due("it is as told", f.due(0, 2), 1);
        due("a LOOK at it that is not as told", agreesIfSeen(f, 1, 0, 2, 0), 0);
        due("one that is", agreesIfSeen(f, 1, 0, 2, 1), 1);
    }

    private static void moduloTheRange() {
        says("modulo the RANGE of its WIRE");
        for (int range = 2; range <= 3; range++) {
            FaultFinder f = wires(2, 3);
            f.set(0, 0, 2);
            f.set(0, 1, 2);
            for (int work = 0; work <= 5; work++) {
                f.wire(range);
                f.part(work, 2 + work, 0, 1);
            }
            f.table(5, 8, 2);
            int[] numbers = {4, 4, 2, 2, 1, 2};
            for (int work = 0; work <= 5; work++) {
                due("WORK " + work + ", RANGE " + range, f.due(0, 2 + work), numbers[work] % range);
            }
            FaultFinder g = wires(1, 3);
            g.set(0, 0, 2);
            g.wire(range);
            g.wire(range);
            g.part(40, 1, 0, 0);
            g.part(30, 2, 0, 0);
            g.table(1, 0, 2);
            due("a METER, RANGE " + range, g.due(0, 1), 2 % range);
            due("a SOURCE, RANGE " + range, g.due(0, 2), 2 % range);
        }
    }

    private static void tablePlaces() {
        says("A number of the TABLE of a PART at a place (0 .. 8)");
        for (int at = 0; at <= 8; at++) {
            FaultFinder f = wires(3, 3);
            f.part(5, 2, 0, 1);
            due("1 there", f.table(0, at, 1), 0);
            due("2 there", f.table(0, at, 2), 1);
            for (int a = 0; a < 3; a++) {
                for (int b = 0; b < 3; b++) {
                    f.set(0, 0, a);
                    f.set(0, 1, b);
                    due("at 3 a + b", f.due(0, 2), 3 * a + b == at ? 2 : 0);
                }
            }
            due("the one before", f.table(0, at, 0), 2);
        }
        FaultFinder s = wires(1, 3);
        s.part(30, 0, 0, 0);
        for (int at = 1; at <= 8; at++) {
            due("of a SOURCE", s.table(0, at, 2), 0);
        }
        due("only at 0", s.due(0, 0), 0);
    }

    private static void oddsAndPrices() {
        says("ODDS (1 .. 9; 1 at first)");
        FaultFinder f = sources(7);
        due("none of seven", f.weigh(0), 4782969);
        due("all of seven", f.weigh(127), 1);
        for (int p = 0; p < 7; p++) {
            due("0", f.odds(p, 0), NO);
            due("10", f.odds(p, 10), NO);
            due("9", f.odds(p, 9), 1);
            due("look", f.look(p, 6), 9);
        }
        due("none of seven", f.weigh(0), 1);
        due("all of seven", f.weigh(127), 4782969);
        says("PRICE of the WIRE (1 .. 9; 1 at first)");
        for (int w = 0; w < 7; w++) {
            due("0", f.price(w, 0), NO);
            due("10", f.price(w, 10), NO);
            due("9", f.price(w, 9), 1);
            due("1", f.price(w, 1), 9);
        }
    }

    // ---- kinds

    private static void kinds() {
        plain();
        known();
        knownInAllTicks();
        stream();
        streamWays();
        twoStreams();
        whatTwoStreamsOwe();
        whatBrokenOnesHandOn();
        streamReads();
        meterOff();
        meterGives();
    }

    private static void plain() {
        says("0 PLAIN: broken it gives any number, in each TICK another one");
        FaultFinder f = one(0, 3);
        f.ticks(3);
        for (int v = 0; v < 27; v++) {
            f.see(0, 1, v % 3);
            f.see(1, 1, v / 3 % 3);
            f.see(2, 1, v / 9);
            due("whatever three numbers", f.agrees(1), 1);
            f.unsee();
            f.unsee();
            f.unsee();
        }
    }

    private static void known() {
        says("1 KNOWN: broken it does one of its WAYS");
        for (int range = 2; range <= 3; range++) {
            FaultFinder f = wires(1, 3);
            f.wire(range);
            f.part(15, 1, 0, 0);
            for (int a = 0; a < 3; a++) {
                f.set(0, 0, a);
                int should = a == 1 ? 1 : 0;
                f.table(0, 4 * a, should);
                for (int ways = 1; ways <= 15; ways++) {
                    f.ways(0, ways);
                    int given = (ways & ZERO) != 0 ? 1 : 0;
                    given |= (ways & TOP) != 0 ? 1 << range - 1 : 0;
                    given |= (ways & TURNED) != 0 ? 1 << range - 1 - should : 0;
                    given |= (ways & PASSED) != 0 ? 1 << a % range : 0;
                    due("WAYS " + ways + " of " + a + ", RANGE " + range, givenBy(f, range), given);
                }
            }
        }
    }

    /** The numbers, as bits, that may be seen at wire 1 if part 0 is broken. */
    private static int givenBy(FaultFinder f, int range) {
        int bits = 0;
        for (int v = 0; v < range; v++) {
            bits |= agreesIfSeen(f, 1, 0, 1, v) << v;
        }
        return bits;
    }

    private static void knownInAllTicks() {
        says("in all TICKS the same");
        FaultFinder f = one(10, 3);
        f.ticks(2);
        f.ways(0, ZERO | TOP);
        for (int v = 0; v < 9; v++) {
            f.see(0, 1, v % 3);
            due("in tick 0, then 1", agreesIfSeen(f, 1, 1, 1, v / 3), v == 0 || v == 8 ? 1 : 0);
            f.unsee();
        }
    }

    private static void stream() {
        says("in TICK 0 it should give 0");
        for (int work = 0; work <= 5; work++) {
            FaultFinder f = one(20 + work, 3);
            f.ticks(3);
            f.table(0, 0, 2);
            f.table(0, 4, 2);
            f.table(0, 8, 1);
            f.set(0, 0, 2);
            f.set(1, 0, 1);
            int[] of2 = {1, 1, 2, 2, 1, 1};
            int[] of1 = {2, 1, 1, 1, 1, 2};
            due("WORK " + work + ", tick 0", f.due(0, 1), 0);
            due("WORK " + work + ", tick 1", f.due(1, 1), of2[work]);
            due("WORK " + work + ", tick 2", f.due(2, 1), of1[work]);
            f.see(0, 1, 1);
            due("1 in tick 0 is nothing that it should", f.agrees(0), 0);
            due("quarrel(0)", f.quarrel(0), 1);
        }
        FaultFinder f = one(24, 2);
        due("1 if they are the same, but with one tick", f.due(0, 1), 0);
        due("TURNED", f.ways(0, TURNED), 1);
        f.see(0, 1, 1);
        due("R - 1 less 0", f.agrees(1), 1);
    }

    private static void streamWays() {
        says("its WAY 8 is of this TICK's a; its WAY 4 of what it should give");
        FaultFinder f = wires(1, 3);
        f.wire(2);
        f.ticks(2);
        f.part(22, 1, 0, 0);
        f.set(0, 0, 1);
        f.set(1, 0, 2);
        f.ways(0, PASSED);
        due("WAY 8 in tick 0: 1", givenBy(f, 2), 2);
        due("WAY 8 in tick 1: 2 modulo 2", agreesIfSeen(f, 1, 1, 1, 0), 1);
        due("not what was there in tick 0", agreesIfSeen(f, 1, 1, 1, 1), 0);
        f.ways(0, TURNED);
        due("WAY 4 in tick 0: 1 less 0", givenBy(f, 2), 2);
        due("WAY 4 in tick 1: 1 less 1", agreesIfSeen(f, 1, 1, 1, 0), 1);
        due("not 1", agreesIfSeen(f, 1, 1, 1, 1), 0);
        f.ways(0, TOP);
        due("WAY 2", givenBy(f, 2), 2);
        f.ways(0, ZERO);
        due("WAY 1", givenBy(f, 2), 1);
    }

    private static void twoStreams() {
        says("2 STREAMS at most");
        FaultFinder f = wires(5, 3);
        f.ticks(3);
        due("the first", f.part(20, 2, 1, 0), 0);
        due("the second, ahead of it", f.part(20, 1, 0, 0), 1);
        due("a third", f.part(20, 3, 0, 0), FULL);
        due("no third is there", f.count(1, 0), 2);
        due("one that is no STREAM", f.part(10, 3, 0, 0), 2);
        due("nor now", f.part(24, 4, 0, 0), FULL);
        f.set(0, 0, 1);
        due("what goes through both, in tick 2", f.due(2, 2), 2);
        due("in tick 1", f.due(1, 2), 1);
    }

    private static void whatTwoStreamsOwe() {
        says("what its WORK is of the inputs of the TICK before, of both STREAMS");
        for (int a = 0; a < 3; a++) {
            for (int b = 0; b < 3; b++) {
                FaultFinder f = wires(4, 3);
                f.ticks(2);
                f.part(22, 2, 0, 0);
                f.part(22, 3, 1, 1);
                f.set(0, 0, a);
                f.set(0, 1, b);
                for (int seen = 0; seen < 9; seen++) {
                    f.see(1, 2, seen % 3);
                    f.see(1, 3, seen / 3);
                    due(a + ", " + b + " seen as " + seen, f.agrees(0), seen == a + 3 * b ? 1 : 0);
                    f.unsee();
                    f.unsee();
                }
                due("VALUES of the first", f.values(1, 2, 0), 1 << a);
                due("VALUES of the second", f.values(1, 3, 0), 1 << b);
            }
        }
    }

    private static void whatBrokenOnesHandOn() {
        says("such that in each TICK the WIRES have just the numbers that were seen");
        int[][] turns = {{0, 1, 2}, {0, 2, 1}, {1, 0, 2}, {1, 2, 0}, {2, 0, 1}, {2, 1, 0}};
        for (int[] turn1 : turns) {
            for (int[] turn2 : turns) {
                handOn(turn1, turn2, 3, 4);
                handOn(turn1, turn2, 4, 3);
            }
        }
    }

    /** Two PLAIN parts on wires 1 and 2, each with a STREAM behind it that turns the numbers round. */
    private static void handOn(int[] turn1, int[] turn2, int behind1, int behind2) {
        FaultFinder f = wires(5, 3);
        f.ticks(2);
        f.part(0, 1, 0, 0);
        f.part(0, 2, 0, 0);
        for (int p = 2; p < 4; p++) {
            int reads = p + 1 == behind1 ? 1 : 2;
            f.part(25, p + 1, reads, reads);
            for (int a = 0; a < 3; a++) {
                f.table(p, 4 * a, reads == 1 ? turn1[a] : turn2[a]);
            }
        }
        for (int seen = 0; seen < 9; seen++) {
            f.see(1, behind1, seen % 3);
            f.see(1, behind2, seen / 3);
            due("both broken", f.agrees(3), 1);
            due("the first broken", f.agrees(1), seen / 3 == turn2[0] ? 1 : 0);
            due("the second", f.agrees(2), seen % 3 == turn1[0] ? 1 : 0);
            due("the STREAMS sound", f.judge(12), 0);
            f.unsee();
            f.unsee();
        }
    }

    private static void streamReads() {
        says("of the inputs of the TICK before");
        for (int x = 0; x < 2; x++) {
            FaultFinder f = wires(4, 3);
            f.ticks(2);
            f.part(0, 1, 0, 0);
            f.part(22, 3, x, 1 - x);
            f.see(1, 3, 2);
            due("what it reads is broken", f.story(0), 1);
            due("one story", f.stories(), 1);
            due("both can't be sound", f.quarrel(0), 3);
            due("it gave 2 in the tick before", f.values(0, 1, 0), 4);
            due("in this one it gives any", f.values(1, 1, 0), 7);
        }
    }

    private static void meterOff() {
        says("at the WIRE of a METER: at most 1 off");
        for (int gives = 0; gives < 3; gives++) {
            for (int seen = 0; seen < 3; seen++) {
                FaultFinder f = one(40, 3);
                f.set(0, 0, gives);
                f.see(0, 1, seen);
                int off = Math.abs(gives - seen);
                due(gives + " seen as " + seen, f.agrees(0), off <= 1 ? 1 : 0);
                due("stories()", f.stories(), off <= 1 ? 1 : 0);
                due("quarrels()", f.quarrels(), off <= 1 ? 0 : 1);
                due("judge(0)", f.judge(0), off <= 1 ? 0 : 2);
            }
        }
        FaultFinder f = wires(1, 3);
        f.wire(2);
        f.part(40, 1, 0, 0);
        f.set(0, 0, 2);
        due("2 modulo 2, seen as 0", agreesIfSeen(f, 0, 0, 1, 0), 1);
        due("as 1", agreesIfSeen(f, 0, 0, 1, 1), 1);
    }

    private static void meterGives() {
        says("it never breaks");
        FaultFinder f = wires(3, 3);
        f.part(40, 1, 0, 0);
        f.part(0, 2, 1, 0);
        f.see(0, 1, 1);
        due("who reads it has what it gives, not what was seen", f.due(0, 2), 0);
        due("so 0 there is as due", agreesIfSeen(f, 0, 0, 2, 0), 1);
        due("and 1 is not", agreesIfSeen(f, 0, 0, 2, 1), 0);
        due("of a METER: the number that it gives", f.values(0, 1, 0), 1);
        due("agrees(1)", f.agrees(1), NO);
        due("judge(1)", f.judge(1), NO);
        due("sound(0, true)", f.sound(0, true), KIND);
        f.see(0, 2, 2);
        due("story(0)", f.story(0), 2);
        due("one story", f.stories(), 1);
    }

    // ---- ticks and looks

    private static void ticksAndLooks() {
        ticks();
        inputsByTick();
        looksOfTicks();
        looks();
        looksGoInOrder();
    }

    private static void ticks() {
        says("TICKS are 0 .. T - 1 (T 1 .. 3; 1 at first)");
        FaultFinder f = wires(1, 2);
        int before = 1;
        for (int t : new int[] {1, 2, 3, 3, 1, 3, 2, 1}) {
            due("0", f.ticks(0), NO);
            due("4", f.ticks(4), NO);
            due("ticks(" + t + ")", f.ticks(t), before);
            due("T", f.count(2, 0), t);
            due("tick -1", f.due(-1, 0), BEYOND);
            due("tick T - 1", f.due(t - 1, 0), 0);
            due("tick T", f.due(t, 0), BEYOND);
            due("lay T - 1", f.lay(t - 1), 1);
            due("lay T", f.lay(t), BEYOND);
            due("set in T", f.set(t, 0, 1), BEYOND);
            due("see in T", f.see(t, 0, 1), BEYOND);
            due("values in T", f.values(t, 0, 0), BEYOND);
            due("worth in T", f.worth(t, 0), BEYOND);
            before = t;
        }
    }

    private static void inputsByTick() {
        says("INPUTS have numbers told TICK by TICK (0 at first)");
        FaultFinder f = wires(2, 3);
        f.ticks(3);
        for (int t = 0; t < 3; t++) {
            due("at first", f.due(t, 1), 0);
            due("set", f.set(t, 1, 2 - t), 0);
        }
        for (int t = 0; t < 3; t++) {
            due("as told", f.due(t, 1), 2 - t);
            due("wire 0", f.due(t, 0), 0);
        }
        says("numbers of INPUTS of TICKS that there are no more go");
        f.ticks(3);
        due("none goes", f.due(1, 1), 1);
        f.ticks(2);
        f.ticks(3);
        due("tick 1 stays", f.due(1, 1), 1);
        due("set in tick 2 answers", f.set(2, 1, 2), 0);
        f.ticks(1);
        f.ticks(3);
        due("tick 0 stays", f.due(0, 1), 2);
        due("tick 1 is gone", f.due(1, 1), 0);
        due("tick 2 is gone", f.due(2, 1), 0);
        inputsThatStay();
    }

    private static void inputsThatStay() {
        for (int kept = 1; kept <= 3; kept++) {
            FaultFinder f = wires(14, 3);
            f.ticks(3);
            for (int t = 0; t < 3; t++) {
                for (int w = 0; w < 14; w++) {
                    f.set(t, w, 1 + (t + w) % 2);
                }
            }
            f.ticks(kept);
            f.ticks(3);
            for (int t = 0; t < 3; t++) {
                for (int w = 0; w < 14; w++) {
                    due(kept + " stay: due(" + t + ", " + w + ")", f.due(t, w), t < kept ? 1 + (t + w) % 2 : 0);
                }
            }
        }
    }

    private static void looksOfTicks() {
        says("LOOKS and numbers of INPUTS of TICKS that there are no more go");
        FaultFinder f = wires(14, 2);
        f.ticks(3);
        for (int i = 0; i < 15; i++) {
            f.see(i % 3, i / 3, 0);
        }
        due("LOOKS", f.count(3, 0), 15);
        f.ticks(3);
        due("none goes", f.count(3, 0), 15);
        f.ticks(2);
        due("those of tick 2", f.count(3, 0), 10);
        f.ticks(1);
        due("those of tick 1", f.count(3, 0), 5);
        f.ticks(3);
        due("none comes back", f.count(3, 0), 5);
        for (int i = 0; i < 11; i++) {
            due("there is room again", f.see(1 + i % 2, i / 2, 1), 6 + i);
        }
        due("no more", f.see(2, 13, 1), FULL);
        FaultFinder later = wires(1, 2);
        later.ticks(2);
        later.see(1, 0, 1);
        due("no story", later.stories(), 0);
        later.ticks(1);
        due("without the look there is one", later.stories(), 1);
        due("unsee()", later.unsee(), MISSING);
    }

    private static void looks() {
        says("LOOKS (16 at most)");
        FaultFinder f = wires(14, 2);
        f.ticks(2);
        for (int i = 0; i < 16; i++) {
            due("see", f.see(i / 14, i % 14, 0), i + 1);
        }
        due("LOOKS", f.count(3, 0), 16);
        due("one more", f.see(1, 2, 0), FULL);
        due("all fit", f.stories(), 1);
        due("the latest goes", f.unsee(), 15);
        due("room for one", f.see(1, 2, 1), 16);
        due("it counts", f.stories(), 0);
        due("no more", f.see(1, 1, 0), FULL);
        says("The latest LOOK goes: how many there are. MISSING: there is none");
        for (int left = 15; left >= 0; left--) {
            due("unsee()", f.unsee(), left);
        }
        due("unsee()", f.unsee(), MISSING);
        due("LOOKS", f.count(3, 0), 0);
    }

    private static void looksGoInOrder() {
        says("The latest LOOK goes");
        FaultFinder f = wires(3, 2);
        f.ticks(3);
        f.see(0, 2, 0);
        f.see(2, 0, 0);
        f.see(1, 1, 0);
        f.see(2, 2, 0);
        f.ticks(2);
        due("of the two that are left the later", f.unsee(), 1);
        due("its place is free", f.see(1, 1, 0), 2);
        due("the other's is not", f.see(0, 2, 0), NO);
        due("the later", f.unsee(), 1);
        due("the first", f.unsee(), 0);
        due("its place is free", f.see(0, 2, 1), 1);
    }

    // ---- stories and quarrels

    private static void storiesAndQuarrels() {
        threeAtMost();
        notTheEmptyOne();
        noSetOfSome();
        byHowMany();
        mostStories();
        noneSound();
        emptyQuarrel();
        leftOut();
        quarrelOfAll();
        weights();
        chances();
    }

    private static void threeAtMost() {
        says("sets of 3 PARTS at most that AGREE");
        FaultFinder f = sources(7);
        int[] stories = {0, 1, 3, 7};
        for (int p = 0; p < 7; p++) {
            due("stories() with " + p + " off", f.stories(), p <= 3 ? 1 : 0);
            due("story(0)", f.story(0), p <= 3 ? stories[p] : BEYOND);
            f.see(0, p, 1);
            due("all that are off agree", f.agrees((2 << p) - 1), 1);
            due("all but one don't", f.agrees((1 << p) - 1), 0);
        }
        due("likely()", f.likely(), MISSING);
        due("next()", f.next(), NONE);
        due("values", f.values(0, 0, 0), BEYOND);
    }

    private static void notTheEmptyOne() {
        says("where no set of some of their PARTS alone (nor the empty one) AGREES");
        FaultFinder f = sources(3);
        due("no LOOK: the empty one", f.stories(), 1);
        due("it", f.story(0), 0);
        due("others agree", f.agrees(5), 1);
        f.see(0, 0, 0);
        f.see(0, 1, 0);
        due("all as due: the empty one", f.stories(), 1);
        due("it", f.story(0), 0);
        due("none has a part", f.chance(0, false), 0);
        due("0 / 1", f.chance(0, true), 1);
        f.see(0, 2, 2);
        due("one off: it alone", f.story(0), 4);
        due("one story", f.stories(), 1);
    }

    private static void noSetOfSome() {
        says("where no set of some of their PARTS alone");
        // A chain of KNOWN parts that turn 0 into 1: an even number of broken ones can't be told from none.
        FaultFinder f = wires(4, 2);
        for (int p = 0; p < 3; p++) {
            f.part(13, p + 1, p, p);
            f.ways(p, TURNED);
        }
        f.see(0, 3, 1);
        due("each alone", f.stories(), 3);
        due("two don't agree", f.agrees(3), 0);
        due("three agree, but each of them does alone", f.agrees(7), 1);
        for (int i = 0; i < 3; i++) {
            due("story", f.story(i), 1 << i);
        }
        due("no other", f.story(3), BEYOND);
    }

    private static void byHowMany() {
        says("by how many PARTS, of these the least number first");
        FaultFinder f = wires(7, 2);
        for (int p = 0; p < 5; p++) {
            f.part(30, p, 0, 0);
        }
        f.part(2, 5, 2, 3);
        f.part(1, 6, 4, 5);
        f.see(0, 6, 1);
        int[] stories = {64, 16 | 4, 16 | 8, 16 | 32};
        due("stories()", f.stories(), 4);
        for (int i = 0; i < 4; i++) {
            due("story(" + i + ")", f.story(i), stories[i]);
        }
        due("story(4)", f.story(4), BEYOND);
        due("story(-1)", f.story(-1), BEYOND);
    }

    /**
     * Seven KNOWN parts in a row that should turn numbers round (with 0 on wire 0) or swap two of them (with 1 there);
     * broken they pass them on. Three broken ones are seen by the swaps, and not by the turns: any three, and no fewer.
     */
    private static FaultFinder anyThree() {
        FaultFinder f = wires(9, 3);
        int[] table = {2, 1, 0, 0, 0, 0, 1, 2, 0};
        for (int p = 0; p < 7; p++) {
            f.part(15, p + 2, p + 1, 0);
            f.ways(p, PASSED);
            for (int at = 0; at < 9; at++) {
                f.table(p, at, table[at]);
            }
        }
        f.ticks(2);
        f.set(1, 0, 1);
        f.see(0, 8, f.due(0, 8));
        f.see(1, 8, 1 - f.due(1, 8));
        return f;
    }

    private static void mostStories() {
        says("STORIES: sets of 3 PARTS at most, as many as there can be of 7");
        FaultFinder f = anyThree();
        due("stories()", f.stories(), 35);
        int i = 0;
        for (int set = 0; set < 128; set++) {
            if (Integer.bitCount(set) == 3) {
                due("story(" + i + ")", f.story(i), set);
                i++;
            }
        }
        due("story(35)", f.story(35), BEYOND);
        due("worth of wire 0", f.worth(0, 0), 35 * 35);
        due("values for the last", f.values(0, 0, 34), 1);
        due("chance", f.chance(6, false), 3);
        due("chance", f.chance(6, true), 7);
        due("the first and the last by wire 2, if it turns or passes", f.apart(0, 34), 2);
        due("the last and the first", f.apart(34, 0), 2);
        due("likely()", f.likely(), 0);
        f.odds(6, 9);
        due("the first with part 6", f.likely(), 20);
        f.odds(5, 9);
        f.odds(4, 9);
        due("the last", f.likely(), 34);
    }

    private static void noneSound() {
        says("no METERS, none told to be SOUND");
        FaultFinder f = sources(3);
        f.see(0, 1, 1);
        due("its story", f.story(0), 2);
        f.sound(1, true);
        due("told to be SOUND: none", f.stories(), 0);
        due("agrees(2)", f.agrees(2), NO);
        due("agrees(5) doesn't help", f.agrees(5), 0);
        f.sound(1, true);
        f.sound(1, false);
        due("not any more", f.stories(), 1);
        for (int p = 0; p < 3; p++) {
            f.sound(p, true);
        }
        f.unsee();
        due("all SOUND: the empty one", f.story(0), 0);
        due("agrees(0)", f.agrees(0), 1);
    }

    private static void emptyQuarrel() {
        says("A QUARREL: a set of PARTS (METERS left out; perhaps none");
        FaultFinder f = sources(2);
        f.wire(3);
        due("no LOOK: no quarrel", f.quarrels(), 0);
        due("quarrel(0)", f.quarrel(0), BEYOND);
        f.see(0, 0, 1);
        due("part 0", f.quarrel(0), 1);
        f.see(0, 2, 1);
        due("an input not as told: one quarrel", f.quarrels(), 1);
        due("the empty one", f.quarrel(0), 0);
        due("quarrel(1)", f.quarrel(1), BEYOND);
        due("judge(0)", f.judge(0), 2);
        due("judge(1): a part can be left out", f.judge(1), 1);
        due("judge(3)", f.judge(3), 1);
        due("no set agrees", f.agrees(3), 0);
        f.set(0, 2, 1);
        due("as told: part 0 again", f.quarrel(0), 1);
        due("judge(0)", f.judge(0), 0);
    }

    private static void leftOut() {
        says("none of whose PARTS can be left out");
        FaultFinder f = sources(2);
        f.wire(3);
        f.part(0, 2, 0, 1);
        f.see(0, 2, 1);
        due("quarrels()", f.quarrels(), 1);
        due("all three", f.quarrel(0), 7);
        for (int p = 0; p < 3; p++) {
            due("without one the LOOKS can be", f.judge(7 & ~(1 << p)), 0);
        }
        due("judge(7)", f.judge(7), 2);
        f.see(0, 1, 1);
        says("By numbers, the least first");
        due("quarrels()", f.quarrels(), 1);
        due("part 1; with it seen the others fit", f.quarrel(0), 2);
        due("judge(7)", f.judge(7), 1);
        f.unsee();
        f.see(0, 1, 2);
        due("quarrels()", f.quarrels(), 2);
        due("quarrel(0)", f.quarrel(0), 2);
        due("quarrel(1)", f.quarrel(1), 5);
        due("quarrel(2)", f.quarrel(2), BEYOND);
        says("what is told to be SOUND doesn't matter");
        f.sound(1, true);
        due("quarrels()", f.quarrels(), 2);
        due("judge(2)", f.judge(2), 2);
    }

    private static void quarrelOfAll() {
        says("whatever numbers all other PARTS give in each TICK");
        FaultFinder f = wires(8, 3);
        for (int p = 0; p < 7; p++) {
            f.part(p < 2 ? 20 : p < 4 ? 10 : 0, p + 1, p, p);
        }
        f.ticks(3);
        f.see(2, 7, 1);
        due("quarrels()", f.quarrels(), 1);
        due("all seven", f.quarrel(0), 127);
        due("judge(127)", f.judge(127), 2);
        for (int p = 0; p < 7; p++) {
            due("without one", f.judge(127 & ~(1 << p)), 0);
        }
        due("a KNOWN part that can't give it is left out too", f.agrees(4), 0);
    }

    private static void weights() {
        says("WEIGHT of a STORY: the product of ODDS of its PARTS, and of 10 less ODDS of all others (METERS aside)");
        FaultFinder f = wires(2, 3);
        f.part(40, 1, 0, 0);
        due("a METER alone", f.weigh(0), 1);
        due("the METER", f.weigh(1), 0);
        due("status(NO)", f.status(NO), 1);
        f.part(30, 0, 0, 0);
        f.odds(1, 9);
        due("1", f.weigh(0), 1);
        due("9", f.weigh(2), 9);
        due("with the METER", f.weigh(3), 0);
        due("status(NO)", f.status(NO), 2);
        f.sound(1, true);
        due("SOUND doesn't matter", f.weigh(2), 9);
    }

    private static void chances() {
        says("in lowest terms (0 / 1, if none has it)");
        FaultFinder f = wires(4, 3);
        for (int p = 0; p < 3; p++) {
            f.part(0, p + 1, p, p);
        }
        f.see(0, 2, 1);
        f.odds(0, 5);
        f.odds(1, 5);
        due("of two alike: 1", f.chance(0, false), 1);
        due("of two alike: 2", f.chance(0, true), 2);
        due("none has it: 0", f.chance(2, false), 0);
        due("none has it: 1", f.chance(2, true), 1);
        f.see(0, 1, 0);
        due("all have it: 1", f.chance(1, false), 1);
        due("all have it: 1", f.chance(1, true), 1);
        nothingInCommon();
        says("The STORY of the greatest WEIGHT (its place), of these the first");
        f.unsee();
        due("alike", f.likely(), 0);
        f.odds(1, 6);
        due("the second", f.likely(), 1);
        f.odds(0, 7);
        due("the first", f.likely(), 0);
    }

    private static void nothingInCommon() {
        FaultFinder one = sources(1);
        one.see(0, 0, 1);
        due("1 of 1: 1", one.chance(0, false), 1);
        due("1 of 1: 1", one.chance(0, true), 1);
        FaultFinder two = wires(3, 3);
        two.part(0, 1, 0, 0);
        two.part(0, 2, 1, 1);
        two.odds(1, 9);
        two.see(0, 2, 1);
        due("1 * 1 of 82: 1", two.chance(0, false), 1);
        due("1 * 1 of 82: 82", two.chance(0, true), 82);
        due("9 * 9 of 82: 81", two.chance(1, false), 81);
        due("9 * 9 of 82: 82", two.chance(1, true), 82);
    }

    // ---- values, worth, next, apart

    private static void valuesAndWorth() {
        values();
        worthOfNothing();
        nextOfOne();
        nextOfPrices();
        nextOfManyStories();
        nextAtTheEnd();
        meterIsNoLook();
    }

    private static void values() {
        says("VALUES of a WIRE in a TICK for a STORY are the numbers v (as bits) with which it AGREES still");
        FaultFinder f = wires(1, 3);
        f.wire(2);
        f.wire(3);
        f.ticks(3);
        f.part(0, 1, 0, 0);
        f.part(30, 2, 0, 0);
        f.see(2, 1, 1);
        f.see(2, 2, 2);
        due("story(0)", f.story(0), 3);
        for (int t = 0; t < 3; t++) {
            due("an input has what it was told", f.values(t, 0, 0), 1);
            due("RANGE 2", f.values(t, 1, 0), t == 2 ? 2 : 3);
            due("RANGE 3", f.values(t, 2, 0), t == 2 ? 4 : 7);
        }
        due("n(v) of a place where all is open", f.worth(0, 2), 3);
    }

    private static void worthOfNothing() {
        says("with n(v) the STORIES that have v among their VALUES: the sum of n(v) squared, over v");
        FaultFinder f = sources(4);
        due("one story", f.worth(0, 0), 1);
        for (int p = 0; p < 4; p++) {
            f.see(0, p, 1);
        }
        due("no story", f.worth(0, 0), 0);
        due("no story", f.worth(0, 3), 0);
    }

    private static void nextOfOne() {
        says("It TELLS, if not all STORIES have the same VALUES; NONE: none TELLS");
        FaultFinder f = sources(4);
        due("no LOOK", f.next(), NONE);
        f.see(0, 0, 1);
        due("one story", f.next(), NONE);
        f.see(0, 1, 1);
        f.see(0, 2, 1);
        f.see(0, 3, 1);
        due("no story", f.next(), NONE);
        due("NONE is no refusal", f.status(MISSING) + f.status(BEYOND) + f.status(NO), 0);
    }

    /** Two parts in a row, and three ticks: a look at wire 1 tells which of them was broken when wire 2 was off. */
    private static FaultFinder pair() {
        FaultFinder f = wires(4, 2);
        f.ticks(3);
        f.part(2, 1, 0, 0);
        f.part(2, 2, 1, 1);
        f.part(2, 3, 1, 1);
        return f;
    }

    private static void nextOfPrices() {
        says("that with the least WORTH times PRICE of the WIRE, of these the least TICK, then WIRE");
        FaultFinder f = pair();
        f.see(2, 2, 1);
        due("in tick 2: 1 + 1", f.worth(2, 1), 2);
        due("in tick 0: 4 + 1", f.worth(0, 1), 5);
        due("in tick 0, wire 2: both may", f.worth(0, 2), 8);
        due("wires 1 and 3 alike: the least", f.next(), 201);
        f.price(1, 2);
        due("wire 3 is cheaper", f.next(), 203);
        f.price(3, 2);
        due("alike again", f.next(), 201);
        f.price(1, 3);
        due("5 of tick 0 is more than 4", f.next(), 203);
        f.price(3, 9);
        f.price(1, 9);
        due("dear alike", f.next(), 201);
        f.see(0, 2, 1);
        due("the least TICK of two alike", f.next(), 1);
    }

    private static void nextOfManyStories() {
        says("the least WORTH times PRICE of the WIRE");
        FaultFinder f = wires(6, 2);
        for (int p = 0; p < 5; p++) {
            f.part(2, p + 1, p, p);
        }
        f.see(0, 5, 1);
        int[] worths = {25, 17, 13, 13, 17, 25};
        for (int w = 0; w < 6; w++) {
            due("WORTH of wire " + w, f.worth(0, w), worths[w]);
        }
        due("13", f.next(), 2);
        f.price(2, 2);
        f.price(3, 2);
        due("17 is less than 13 twice", f.next(), 1);
        f.price(1, 2);
        f.price(4, 2);
        due("26 is less than 34", f.next(), 2);
        f.price(2, 3);
        due("and than 39", f.next(), 3);
        f.price(3, 3);
        due("34 is less than 39", f.next(), 1);
    }

    private static void nextAtTheEnd() {
        says("NEXT, told as 100 * TICK and WIRE");
        FaultFinder f = wires(14, 2);
        f.ticks(3);
        f.part(30, 0, 0, 0);
        f.part(2, 12, 0, 0);
        f.part(2, 13, 0, 0);
        f.see(2, 12, 1);
        due("the SOURCE, or what reads it", f.stories(), 2);
        due("the least of two alike", f.next(), 200);
        f.price(0, 9);
        due("the last tick and the last wire", f.next(), 213);
        due("PRICE doesn't matter to what parts them", f.apart(0, 1), 200);
    }

    private static void meterIsNoLook() {
        says("WIRES of METERS left out; PARTED by a TICK and a WIRE (of no METER)");
        FaultFinder f = wires(4, 3);
        f.part(30, 0, 0, 0);
        f.part(40, 1, 0, 0);
        f.part(2, 2, 0, 0);
        f.see(0, 2, 2);
        due("two stories", f.stories(), 2);
        due("WORTH of a METER", f.worth(0, 1), 2);
        due("WORTH of its input", f.worth(0, 0), 2);
        f.price(0, 9);
        due("NEXT is its input, dear as it is", f.next(), 0);
        due("so are they parted", f.apart(0, 1), 0);
        due("one and itself", f.apart(1, 1), NONE);
        due("VALUES at the METER", f.values(0, 1, 0), 4);
        due("VALUES at the METER", f.values(0, 1, 1), 1);
    }

    // ---- what is found, behind each call that changes something

    private static void foundAnew() {
        says("what is found is of the machine and the LOOKS as they are now");
        behindWire();
        behindPart();
        behindTable();
        behindWays();
        behindTicks();
        behindSet();
        behindSound();
        behindTrials();
    }

    /** Asks for all that could be kept. */
    private static void askForAll(FaultFinder f) {
        f.due(0, 0);
        f.stories();
        f.quarrels();
        f.next();
    }

    private static void behindWire() {
        FaultFinder f = wires(1, 3);
        askForAll(f);
        f.wire(3);
        due("VALUES of a new wire", f.values(0, 1, 0), 1);
        due("its number", f.due(0, 1), 0);
    }

    private static void behindPart() {
        FaultFinder f = wires(2, 3);
        f.see(0, 1, 2);
        askForAll(f);
        due("an input not as told", f.stories(), 0);
        f.part(0, 1, 0, 0);
        due("driven: one story", f.stories(), 1);
        due("story(0)", f.story(0), 1);
        due("quarrel(0)", f.quarrel(0), 1);
        askForAll(f);
        f.part(30, 0, 0, 0);
        due("two stories", f.stories(), 2);
        due("the SOURCE", f.story(1), 2);
        due("quarrel(0)", f.quarrel(0), 3);
        due("next()", f.next(), 0);
        FaultFinder d = wires(2, 3);
        d.set(0, 1, 2);
        due("an input", d.due(0, 1), 2);
        d.part(0, 1, 0, 0);
        due("driven", d.due(0, 1), 0);
    }

    private static void behindTable() {
        FaultFinder f = sources(1);
        f.see(0, 0, 2);
        askForAll(f);
        f.table(0, 0, 2);
        due("as due", f.story(0), 0);
        due("no quarrel", f.quarrels(), 0);
        due("due", f.due(0, 0), 2);
        askForAll(f);
        f.table(0, 0, 1);
        due("not as due", f.story(0), 1);
        due("a quarrel", f.quarrels(), 1);
    }

    private static void behindWays() {
        FaultFinder f = one(10, 3);
        f.see(0, 1, 2);
        askForAll(f);
        due("no WAY gives it", f.stories(), 0);
        f.ways(0, TOP);
        due("one does", f.stories(), 1);
        askForAll(f);
        f.ways(0, ZERO);
        due("none does", f.stories(), 0);
    }

    private static void behindTicks() {
        FaultFinder f = sources(1);
        f.ticks(2);
        f.see(1, 0, 1);
        askForAll(f);
        due("off in tick 1", f.story(0), 1);
        f.ticks(1);
        due("that is no more", f.story(0), 0);
        due("no quarrel", f.quarrels(), 0);
        askForAll(f);
        f.ticks(3);
        due("VALUES of a new tick", f.values(2, 0, 0), 1);
    }

    private static void behindSet() {
        FaultFinder f = one(0, 3);
        f.see(0, 1, 2);
        askForAll(f);
        due("0 + 0", f.story(0), 1);
        f.set(0, 0, 1);
        due("1 + 1", f.story(0), 0);
        due("no quarrel", f.quarrels(), 0);
        due("due", f.due(0, 1), 2);
    }

    private static void behindSound() {
        FaultFinder f = sources(1);
        f.see(0, 0, 1);
        askForAll(f);
        f.sound(0, true);
        due("no story", f.stories(), 0);
        due("the quarrel stays", f.quarrels(), 1);
        f.sound(0, false);
        due("one story", f.stories(), 1);
    }

    /** What was tried last leaves no trace in what is asked next. */
    private static void behindTrials() {
        FaultFinder f = one(10, 3);
        f.ways(0, TOP);
        f.see(0, 1, 2);
        due("broken", f.agrees(1), 1);
        due("what it should give", f.due(0, 1), 0);
        due("broken", f.agrees(1), 1);
        due("sound it can't be", f.judge(1), 2);
        due("its VALUES", f.values(0, 1, 0), 4);
        due("sound it can't be", f.judge(1), 2);
        due("left out it can", f.judge(0), 0);
        due("nor can none be broken", f.agrees(0), 0);
        FaultFinder g = anyThree();
        for (int i = 34; i >= 0; i -= 2) {
            due("VALUES from the last story on", g.values(1, 2, i), (g.story(i) & 1) != 0 ? 1 : 2);
        }
        for (int i = 33; i >= 1; i -= 2) {
            due("VALUES of those between", g.values(1, 2, i), (g.story(i) & 1) != 0 ? 1 : 2);
        }
    }

    // ---- rows

    private static void rows() {
        layAll();
        layNone();
        copyAsTheyWere();
        copyAll();
    }

    private static FaultFinder laid(int n) {
        FaultFinder f = wires(n, 3);
        for (int w = 0; w < n; w++) {
            f.set(0, w, w % 3);
        }
        f.lay(0);
        return f;
    }

    private static void layAll() {
        says("THE ROW becomes what all WIRES should have in a TICK: how many");
        FaultFinder f = wires(14, 3);
        f.ticks(3);
        for (int t = 0; t < 3; t++) {
            for (int w = 0; w < 14; w++) {
                f.set(t, w, (w + t) % 3);
            }
        }
        for (int t = 0; t < 3; t++) {
            due("lay(" + t + ")", f.lay(t), 14);
            for (int w = 0; w < 14; w++) {
                due("row(" + w + ")", f.row(w), (w + t) % 3);
            }
            due("row(14)", f.row(14), BEYOND);
        }
        f.ticks(1);
        due("the row stays when its tick goes", f.row(0), 2);
        due("lay(1)", f.lay(1), BEYOND);
        due("a refused lay() leaves it", f.row(13), 0);
    }

    private static void layNone() {
        says("THE ROW is missing: 1 if it was there, else 0 (at first it is missing)");
        FaultFinder f = new FaultFinder();
        due("at first", f.tear(), 0);
        due("row(0)", f.row(0), MISSING);
        due("copy(0, 0, 0)", f.copy(0, 0, 0), MISSING);
        due("lay(0) of no wires", f.lay(0), 0);
        due("row(0) of none", f.row(0), BEYOND);
        due("copy(0, 0, 0) of none", f.copy(0, 0, 0), 0);
        due("copy(0, 0, 1) of none", f.copy(0, 0, 1), -6);
        due("copy(1, 0, 0) of none", f.copy(1, 0, 0), -6);
        due("it is there", f.tear(), 1);
        due("not any more", f.tear(), 0);
        due("row(0)", f.row(0), MISSING);
        f.wire(2);
        f.lay(0);
        f.wire(2);
        due("a wire that came later is not in it", f.row(1), BEYOND);
        due("lay again", f.lay(0), 2);
        due("now it is", f.row(1), 0);
    }

    private static void copyAsTheyWere() {
        says("n numbers of THE ROW, from place i on, come to its place j on (as they were)");
        for (int i = 0; i <= 5; i++) {
            for (int j = 0; j <= 5; j++) {
                for (int n = 0; n <= 5 - Math.max(i, j); n++) {
                    FaultFinder f = laid(5);
                    due("copy(" + i + ", " + j + ", " + n + ")", f.copy(i, j, n), n);
                    for (int k = 0; k < 5; k++) {
                        boolean copied = k >= j && k < j + n;
                        due("row(" + k + ")", f.row(k), (copied ? k - j + i : k) % 3);
                    }
                }
            }
        }
    }

    private static void copyAll() {
        says("i + n or j + n above how many there are");
        FaultFinder f = laid(14);
        due("all", f.copy(0, 0, 14), 14);
        due("one too many", f.copy(0, 0, 15), -6);
        due("i 1 too far", f.copy(1, 0, 14), -6);
        due("j 1 too far", f.copy(0, 1, 14), -6);
        due("13 to place 1", f.copy(0, 1, 13), 13);
        due("the last", f.row(13), 0);
        due("none behind the last", f.copy(14, 14, 0), 0);
        due("none further on", f.copy(15, 0, 0), -6);
        due("nor to there", f.copy(0, 15, 0), -6);
        f.wire(3);
        due("a wire in vain changes nothing", f.copy(0, 0, 15), -6);
    }

    // ---- calls

    private static void calls() {
        says("An object is used for at most 512 calls after it has been made");
        FaultFinder f = new FaultFinder();
        for (int call = 1; call <= 511; call++) {
            f.unsee();
        }
        due("the 512th call", f.status(MISSING), 511);
        changedAllAlong();
    }

    private static void changedAllAlong() {
        FaultFinder f = one(0, 3);
        for (int call = 4; call <= 508; call += 4) {
            int v = call / 4 % 3;
            due("see, call " + call, f.see(0, 1, v), 1);
            due("stories()", f.stories(), 1);
            due("story(0)", f.story(0), v == 0 ? 0 : 1);
            due("unsee()", f.unsee(), 0);
        }
        due("the 512th call", f.quarrels(), 0);
    }
}
