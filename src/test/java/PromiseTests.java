/** Each promise of the document by itself: ordinary calls, the edges that it names, wrong calls. */
public final class PromiseTests {
    private static final int NONE = -1;
    private static final int MISSING = -2;
    private static final int BEYOND = -3;
    private static final int BELOW = -4;
    private static final int KIND = -5;
    private static final int COPY = -6;
    private static final int NO = -7;
    private static final int FULL = -8;
    private static final int MOST = Integer.MAX_VALUE;
    private static final int LEAST = Integer.MIN_VALUE;

    private static int wrong = 0;
    private static int checked = 0;
    private static int promise = 0;

    private static void due(String what, long got, long want) {
        checked++;
        if (got != want) {
            wrong++;
            System.out.println("promise " + promise + ": " + what + " answered " + got + ", due is " + want);
        }
    }

    public static void main(String[] args) {
        for (promise = 1; promise <= 33; promise++) {
            test();
        }
        System.out.println(checked + " answers checked, " + wrong + " wrong");
        if (wrong != 0) {
            System.exit(1);
        }
    }

    private static void test() {
        switch (promise) {
            case 1: newObject(); break;
            case 2: wire(); break;
            case 3: part(); partLimits(); break;
            case 4: table(); break;
            case 5: ways(); break;
            case 6: odds(); break;
            case 7: price(); break;
            case 8: ticks(); break;
            case 9: set(); break;
            case 10: sound(); break;
            case 11: look(); break;
            case 12: count(); break;
            case 13: see(); break;
            case 14: unsee(); break;
            case 15: due(); dueOfStreams(); break;
            case 16: stories(); storiesOfKnownParts(); storiesOfMeters(); break;
            case 17: story(); break;
            case 18: agrees(); agreesOverTicks(); agreesOfManyParts(); break;
            case 19: weigh(); break;
            case 20: likely(); break;
            case 21: chance(); break;
            case 22: quarrels(); break;
            case 23: quarrel(); break;
            case 24: judge(); break;
            case 25: values(); valuesOfMeters(); valuesLookAhead(); break;
            case 26: worth(); break;
            case 27: next(); break;
            case 28: apart(); break;
            case 29: lay(); break;
            case 30: tear(); break;
            case 31: row(); break;
            case 32: copy(); break;
            default: status(); break;
        }
    }

    /** Wires of a range. */
    private static FaultFinder wires(int n, int range) {
        FaultFinder x = new FaultFinder();
        for (int i = 0; i < n; i++) {
            x.wire(range);
        }
        return x;
    }

    /** A part of each kind, on wires 1 .. 5, each of range 3: PLAIN, KNOWN, STREAM, SOURCE, METER; wire 0 is an input. */
    private static FaultFinder eachKind() {
        FaultFinder x = wires(6, 3);
        x.part(0, 1, 0, 0);
        x.part(11, 2, 0, 1);
        x.part(22, 3, 0, 1);
        x.part(30, 4, 0, 0);
        x.part(40, 5, 1, 0);
        return x;
    }

    /** Three plain parts, each adding 0 (wire 0) to the one ahead: wires 1, 2, 3 should be 0. */
    private static FaultFinder chain() {
        FaultFinder x = wires(4, 3);
        x.part(0, 1, 0, 0);
        x.part(0, 2, 1, 0);
        x.part(0, 3, 2, 0);
        return x;
    }

    private static void newObject() {
        FaultFinder x = new FaultFinder();
        due("count(0, 0)", x.count(0, 0), 0);
        due("count(1, 0)", x.count(1, 0), 0);
        due("count(2, 0)", x.count(2, 0), 1);
        due("count(3, 0)", x.count(3, 0), 0);
        due("tear()", x.tear(), 0);
        for (int by = -8; by <= -2; by++) {
            due("status(" + by + ")", x.status(by), 0);
        }
        new FaultFinder().wire(2);
        due("count(0, 0) beside another object", x.count(0, 0), 0);
    }

    private static void wire() {
        FaultFinder x = new FaultFinder();
        due("wire(1)", x.wire(1), NO);
        due("wire(4)", x.wire(4), NO);
        due("wire(MOST)", x.wire(MOST), NO);
        due("wire(LEAST)", x.wire(LEAST), NO);
        for (int i = 0; i < 14; i++) {
            due("wire", x.wire(2 + i % 2), i);
            due("its range", x.count(5, i), 2 + i % 2);
        }
        due("wire(2) of 14", x.wire(2), FULL);
        due("wire(5) of 14", x.wire(5), NO);
        due("count(0, 0)", x.count(0, 0), 14);
    }

    private static void part() {
        FaultFinder x = wires(6, 3);
        due("a wire beyond", x.part(0, 6, 0, 0), BEYOND);
        due("a wire below", x.part(0, -1, 0, 0), BEYOND);
        due("x beyond", x.part(0, 1, 6, 0), BEYOND);
        due("y below", x.part(0, 1, 0, -1), BEYOND);
        due("x of a METER beyond", x.part(40, 1, 6, 0), BEYOND);
        due("a SOURCE's wire beyond", x.part(30, 6, 0, 0), BEYOND);
        due("x beyond ahead of no WORK", x.part(6, 1, 6, 0), BEYOND);
        due("y beyond ahead of no WORK", x.part(19, 1, 0, 6), BEYOND);
        due("y beyond ahead of x not lesser", x.part(0, 1, 1, 6), BEYOND);
        due("a wire beyond ahead of no KIND", x.part(-1, 6, 0, 0), BEYOND);
        due("a wire below ahead of no KIND", x.part(50, -1, 0, 0), BEYOND);
        for (int told : new int[] {-1, -9, -10, -30, -31, -40, 50, 55, 59, 99, MOST, LEAST}) {
            due("no KIND, x beyond", x.part(told, 1, 6, 0), NO);
            due("no KIND, y below", x.part(told, 1, 0, -1), NO);
            due("no KIND, both beyond", x.part(told, 0, LEAST, MOST), NO);
        }
        due("refused by NO", x.status(NO), 36);
        due("refused by BEYOND", x.status(BEYOND), 11);
        due("no KIND", x.part(50, 1, 0, 0), NO);
        due("told MOST", x.part(MOST, 1, 0, 0), NO);
        due("told -1", x.part(-1, 1, 0, 0), NO);
        due("told LEAST", x.part(LEAST, 1, 0, 0), NO);
        due("no WORK of PLAIN", x.part(6, 1, 0, 0), NO);
        due("no WORK of STREAM", x.part(29, 1, 0, 0), NO);
        due("x not lesser", x.part(0, 1, 1, 0), NO);
        due("y not lesser", x.part(0, 1, 0, 2), NO);
        due("x of a METER not lesser", x.part(40, 2, 2, 0), NO);
        due("none was made", x.count(1, 0), 0);
        due("a SOURCE with any inputs", x.part(39, 0, -7, 99), 0);
        due("a METER with any y", x.part(46, 2, 1, -5), 1);
        due("a PLAIN one", x.part(5, 5, 4, 3), 2);
        due("a driven wire", x.part(0, 5, 0, 0), NO);
        due("the driver", x.count(4, 2), 1);
        due("no driver", x.count(4, 3), NONE);
    }

    private static void partLimits() {
        FaultFinder x = wires(14, 2);
        due("STREAM", x.part(20, 1, 0, 0), 0);
        due("STREAM", x.part(21, 2, 0, 0), 1);
        due("third STREAM", x.part(22, 3, 0, 0), FULL);
        due("NO ahead of FULL", x.part(26, 3, 0, 0), NO);
        due("driven ahead of FULL", x.part(22, 2, 0, 0), NO);
        for (int i = 2; i < 7; i++) {
            due("part", x.part(10, i + 2, 0, 1), i);
        }
        due("eighth part", x.part(10, 12, 0, 1), FULL);
        due("NO ahead of FULL", x.part(10, 12, 0, 12), NO);
        due("PARTS", x.count(1, 0), 7);
    }

    private static void table() {
        FaultFinder x = wires(3, 2);
        x.part(5, 2, 0, 1);
        x.part(40, 1, 0, 0);
        due("a part beyond", x.table(2, 0, 0), BEYOND);
        due("a part below", x.table(-1, 0, 0), BEYOND);
        due("a place beyond", x.table(0, 9, 0), BEYOND);
        due("a place below", x.table(0, -1, 0), BEYOND);
        due("a place beyond, of a METER", x.table(1, 9, 0), BEYOND);
        due("a METER", x.table(1, 0, 7), KIND);
        due("3", x.table(0, 0, 3), NO);
        due("-1", x.table(0, 0, -1), NO);
        due("table(0, 0, 1)", x.table(0, 0, 1), 0);
        due("the number at 0", x.due(0, 2), 1);
        due("table(0, 0, 2)", x.table(0, 0, 2), 1);
        due("2 modulo 2", x.due(0, 2), 0);
        due("table(0, 8, 2)", x.table(0, 8, 2), 0);
        due("table(0, 8, 0)", x.table(0, 8, 0), 2);
        due("table(0, 0, 2)", x.table(0, 0, 2), 2);
        FaultFinder z = wires(3, 3);
        z.part(5, 2, 0, 1);
        z.table(0, 5, 2);
        z.table(0, 7, 1);
        z.set(0, 0, 1);
        z.set(0, 1, 2);
        due("at 3 a + b", z.due(0, 2), 2);
        z.set(0, 0, 2);
        z.set(0, 1, 1);
        due("at 3 a + b", z.due(0, 2), 1);
    }

    private static void ways() {
        FaultFinder x = eachKind();
        due("beyond", x.ways(5, 1), BEYOND);
        due("below", x.ways(-1, 1), BEYOND);
        due("PLAIN", x.ways(0, 99), KIND);
        due("SOURCE", x.ways(3, 1), KIND);
        due("METER", x.ways(4, 1), KIND);
        due("0", x.ways(1, 0), NO);
        due("16", x.ways(1, 16), NO);
        due("-1", x.ways(2, -1), NO);
        due("KNOWN", x.ways(1, 15), 1);
        due("KNOWN", x.ways(1, 2), 15);
        due("STREAM", x.ways(2, 8), 1);
        due("STREAM", x.ways(2, 1), 8);
        x.see(0, 2, 2);
        due("with its way it agrees", x.agrees(2), 1);
        x.ways(1, 1);
        due("with another one it doesn't", x.agrees(2), 0);
    }

    private static void odds() {
        FaultFinder x = eachKind();
        due("beyond", x.odds(5, 1), BEYOND);
        due("below", x.odds(-1, 1), BEYOND);
        due("METER", x.odds(4, 0), KIND);
        due("0", x.odds(0, 0), NO);
        due("10", x.odds(0, 10), NO);
        due("9", x.odds(0, 9), 1);
        due("2", x.odds(0, 2), 9);
        due("SOURCE", x.odds(3, 4), 1);
        due("STREAM", x.odds(2, 4), 1);
    }

    private static void price() {
        FaultFinder x = wires(2, 2);
        due("beyond", x.price(2, 1), BEYOND);
        due("below", x.price(-1, 0), BEYOND);
        due("0", x.price(0, 0), NO);
        due("10", x.price(0, 10), NO);
        due("9", x.price(0, 9), 1);
        due("1", x.price(0, 1), 9);
        due("another wire", x.price(1, 3), 1);
    }

    private static void ticks() {
        FaultFinder x = wires(2, 3);
        due("0", x.ticks(0), NO);
        due("4", x.ticks(4), NO);
        due("LEAST", x.ticks(LEAST), NO);
        due("3", x.ticks(3), 1);
        for (int t = 0; t < 3; t++) {
            x.set(t, 0, 1 + t % 2);
        }
        x.see(2, 0, 1);
        x.see(0, 0, 1);
        x.see(1, 0, 2);
        x.see(0, 1, 0);
        due("2", x.ticks(2), 3);
        due("LOOKS", x.count(3, 0), 3);
        due("the latest goes", x.unsee(), 2);
        due("a tick that is no more", x.due(2, 0), BEYOND);
        due("3 again", x.ticks(3), 2);
        due("its number is gone", x.due(2, 0), 0);
        due("tick 1 is as it was", x.due(1, 0), 2);
        due("a look is free again", x.see(2, 0, 2), 3);
        due("1", x.ticks(1), 3);
        due("the look of tick 0 stays", x.count(3, 0), 1);
        due("it is at wire 0", x.see(0, 0, 1), NO);
        due("the one at wire 1 went by unsee", x.see(0, 1, 0), 2);
        due("the same", x.ticks(1), 1);
        due("T", x.count(2, 0), 1);
    }

    private static void set() {
        FaultFinder x = wires(3, 2);
        x.part(0, 2, 0, 1);
        due("a tick beyond", x.set(1, 0, 0), BEYOND);
        due("a tick below", x.set(-1, 0, 0), BEYOND);
        due("a wire beyond", x.set(0, 3, 0), BEYOND);
        due("a wire below", x.set(0, -1, 0), BEYOND);
        due("driven", x.set(0, 2, 5), KIND);
        due("beyond its range", x.set(0, 0, 2), NO);
        due("below 0", x.set(0, 0, -1), NO);
        due("set", x.set(0, 0, 1), 0);
        due("set again", x.set(0, 0, 0), 1);
        x.ticks(2);
        due("another tick", x.set(1, 0, 1), 0);
        due("the first tick", x.due(0, 2), 0);
        due("the second", x.due(1, 2), 1);
    }

    private static void sound() {
        FaultFinder x = eachKind();
        due("beyond", x.sound(5, true), BEYOND);
        due("below", x.sound(-1, true), BEYOND);
        due("METER", x.sound(4, true), KIND);
        due("was not", x.sound(1, true), 0);
        due("was", x.sound(1, true), 1);
        due("was", x.sound(1, false), 1);
        due("was not", x.sound(1, false), 0);
        FaultFinder c = chain();
        c.see(0, 3, 1);
        due("stories", c.stories(), 3);
        c.sound(1, true);
        due("stories without it", c.stories(), 2);
        due("the second of them", c.story(1), 4);
        c.sound(1, false);
        due("stories with it", c.stories(), 3);
    }

    private static void look() {
        FaultFinder x = eachKind();
        long[][] facts = {
            {0, 0, 1, 0, 0, 0, 1, 0}, {1, 1, 2, 0, 1, 1, 1, 0}, {2, 2, 3, 0, 1, 1, 1, 0},
            {3, 0, 4, NONE, NONE, 0, 1, 0}, {4, 0, 5, 1, NONE, 0, 1, 0}};
        for (int p = 0; p < 5; p++) {
            for (int what = 0; what < 8; what++) {
                due("look(" + p + ", " + what + ")", x.look(p, what), facts[p][what]);
            }
        }
        due("beyond", x.look(5, 99), BEYOND);
        due("below", x.look(-1, 0), BEYOND);
        due("8", x.look(0, 8), NO);
        due("-1", x.look(0, -1), NO);
        x.ways(2, 6);
        x.odds(2, 7);
        x.sound(2, true);
        due("WAYS", x.look(2, 5), 6);
        due("ODDS", x.look(2, 6), 7);
        due("SOUND", x.look(2, 7), 1);
        FaultFinder z = wires(3, 2);
        z.part(35, 0, 0, 0);
        z.part(43, 2, 1, 1);
        due("WORK of a SOURCE", z.look(0, 1), 0);
        due("WORK of a METER", z.look(1, 1), 0);
        due("x of a METER", z.look(1, 3), 1);
    }

    private static void count() {
        FaultFinder x = eachKind();
        x.ticks(2);
        x.see(1, 0, 0);
        due("WIRES", x.count(0, -9), 6);
        due("PARTS", x.count(1, MOST), 5);
        due("T", x.count(2, 77), 2);
        due("LOOKS", x.count(3, 77), 1);
        due("no driver", x.count(4, 0), NONE);
        due("driver", x.count(4, 5), 4);
        due("RANGE", x.count(5, 5), 3);
        due("driver of a wire beyond", x.count(4, 6), BEYOND);
        due("RANGE of a wire below", x.count(5, -1), BEYOND);
        due("6", x.count(6, 0), NO);
        due("6 of a wire beyond", x.count(6, 99), NO);
        due("-1", x.count(-1, 0), NO);
    }

    private static void see() {
        FaultFinder x = wires(14, 3);
        x.ticks(2);
        due("a tick beyond", x.see(2, 0, 0), BEYOND);
        due("a wire beyond", x.see(0, 14, 0), BEYOND);
        due("a wire below", x.see(0, -1, 9), BEYOND);
        due("beyond its range", x.see(0, 0, 3), NO);
        due("below 0", x.see(0, 0, -1), NO);
        for (int i = 0; i < 16; i++) {
            due("see", x.see(i / 14, i % 14, 0), i + 1);
            due("there already", x.see(i / 14, i % 14, 0), NO);
        }
        due("the seventeenth", x.see(1, 5, 0), FULL);
        due("NO ahead of FULL", x.see(1, 5, 3), NO);
        due("there already, ahead of FULL", x.see(0, 5, 0), NO);
        due("LOOKS", x.count(3, 0), 16);
    }

    private static void unsee() {
        FaultFinder x = wires(2, 2);
        due("none", x.unsee(), MISSING);
        x.see(0, 1, 1);
        x.see(0, 0, 0);
        due("one left", x.unsee(), 1);
        due("that at wire 1 is left", x.see(0, 1, 0), NO);
        due("no story while it is", x.stories(), 0);
        due("none left", x.unsee(), 0);
        due("none", x.unsee(), MISSING);
        due("the empty story", x.stories(), 1);
    }

    private static void due() {
        FaultFinder x = wires(2, 3);
        for (int i = 0; i < 6; i++) {
            x.wire(3);
            x.part(i, 2 + i, 0, 1);
        }
        x.wire(2);
        x.part(1, 8, 0, 1);
        for (int a = 0; a < 3; a++) {
            for (int b = 0; b < 3; b++) {
                x.set(0, 0, a);
                x.set(0, 1, b);
                int want = 5 * a + b;
                x.table(5, 3 * a + b, want % 3);
                due("a + b", x.due(0, 2), (a + b) % 3);
                due("a times b", x.due(0, 3), a * b % 3);
                due("the greater", x.due(0, 4), Math.max(a, b));
                due("the lesser", x.due(0, 5), Math.min(a, b));
                due("the same", x.due(0, 6), a == b ? 1 : 0);
                due("TABLE", x.due(0, 7), want % 3);
                due("modulo 2", x.due(0, 8), a * b % 2);
                due("an input", x.due(0, 0), a);
            }
        }
        due("a tick beyond", x.due(1, 0), BEYOND);
        due("a tick below", x.due(-1, 0), BEYOND);
        due("a wire beyond", x.due(0, 9), BEYOND);
        due("a wire below", x.due(0, -1), BEYOND);
    }

    private static void dueOfStreams() {
        FaultFinder x = wires(4, 3);
        x.wire(2);
        x.ticks(3);
        x.part(20, 1, 0, 0);
        x.part(20, 2, 1, 0);
        x.part(30, 3, 0, 0);
        x.part(40, 4, 2, 0);
        x.table(2, 0, 2);
        x.set(0, 0, 1);
        x.set(1, 0, 2);
        x.set(2, 0, 2);
        int[][] want = {{1, 0, 0, 2, 0}, {2, 2, 1, 2, 1}, {2, 1, 1, 2, 1}};
        for (int t = 0; t < 3; t++) {
            for (int w = 0; w < 5; w++) {
                due("due(" + t + ", " + w + ")", x.due(t, w), want[t][w]);
            }
        }
        x.see(0, 3, 1);
        due("looks don't matter", x.due(0, 3), 2);
    }

    private static void stories() {
        FaultFinder x = chain();
        due("no look", x.stories(), 1);
        x.see(0, 3, 1);
        due("any one of the chain", x.stories(), 3);
        x.see(0, 1, 0);
        due("not the first", x.stories(), 2);
        x.see(0, 2, 2);
        due("the two others together", x.stories(), 1);
        due("they", x.story(0), 6);
        FaultFinder four = wires(5, 2);
        for (int p = 0; p < 4; p++) {
            four.part(30, p, 0, 0);
            four.see(0, p, 1);
            due("as many as are seen", four.stories(), p < 3 ? 1 : 0);
        }
        due("four agree, but are no story", four.agrees(15), 1);
        four.sound(0, true);
        four.unsee();
        due("one of three told to be sound", four.stories(), 0);
    }

    private static void storiesOfKnownParts() {
        FaultFinder x = wires(3, 2);
        x.part(10, 1, 0, 0);
        x.part(10, 2, 1, 0);
        x.ways(0, 2);
        x.ways(1, 4);
        x.see(0, 2, 1);
        due("either one alone", x.stories(), 2);
        due("the second", x.story(1), 2);
        due("both turn it back", x.agrees(3), 0);
        x.unsee();
        x.see(0, 2, 0);
        due("as due", x.story(0), 0);
        due("both agree, but are no story", x.agrees(3), 1);
        due("one", x.stories(), 1);
    }

    private static void storiesOfMeters() {
        FaultFinder x = wires(3, 3);
        x.part(0, 1, 0, 0);
        x.part(40, 2, 1, 0);
        x.see(0, 2, 1);
        due("a METER 1 off", x.story(0), 0);
        x.unsee();
        x.see(0, 2, 2);
        due("2 off", x.stories(), 1);
        due("what it reads is broken", x.story(0), 1);
        x.see(0, 1, 0);
        due("nothing else to break", x.stories(), 0);
        x.unsee();
        x.unsee();
        x.set(0, 0, 1);
        x.see(0, 2, 1);
        due("1 below its number", x.story(0), 0);
    }

    private static void story() {
        FaultFinder x = wires(6, 2);
        x.part(30, 0, 0, 0);
        x.part(30, 1, 0, 0);
        x.part(1, 2, 0, 1);
        x.part(30, 4, 0, 0);
        x.see(0, 2, 1);
        due("stories", x.stories(), 2);
        due("fewer parts first", x.story(0), 4);
        due("then more", x.story(1), 3);
        due("beyond", x.story(2), BEYOND);
        due("below", x.story(-1), BEYOND);
        x.see(0, 4, 1);
        due("with another", x.story(0), 12);
        due("of three", x.story(1), 11);
    }

    private static void agrees() {
        FaultFinder x = eachKind();
        due("none", x.agrees(0), 1);
        due("all but the METER", x.agrees(15), 1);
        due("bits of no part", x.agrees(32), BEYOND);
        due("below 0", x.agrees(-1), BEYOND);
        due("LEAST", x.agrees(LEAST), BEYOND);
        due("the METER", x.agrees(16), NO);
        due("BEYOND ahead of NO", x.agrees(48), BEYOND);
        x.sound(0, true);
        due("told to be SOUND", x.agrees(1), NO);
        due("not it", x.agrees(2), 1);
        x.sound(0, false);
        x.see(0, 4, 2);
        due("SOURCE gives any", x.agrees(8), 1);
        due("not another", x.agrees(1), 0);
    }

    private static void agreesOverTicks() {
        FaultFinder x = wires(4, 3);
        x.ticks(3);
        x.part(0, 1, 0, 0);
        x.part(10, 2, 0, 0);
        x.part(20, 3, 0, 0);
        for (int t = 0; t < 3; t++) {
            x.set(t, 0, t);
            x.see(t, 1, (t + 1) % 3);
        }
        due("PLAIN: in each tick another", x.agrees(1), 1);
        x.ways(1, 3);
        x.see(0, 2, 2);
        x.see(1, 2, 0);
        due("KNOWN: the same way in all", x.agrees(3), 0);
        x.ways(1, 7);
        due("turned: 2, then 0", x.agrees(3), 1);
        x.ways(1, 15);
        x.unsee();
        x.unsee();
        x.see(1, 2, 1);
        x.see(2, 2, 2);
        due("a itself: 1, then 2", x.agrees(3), 1);
        x.ways(1, 7);
        due("no other way", x.agrees(3), 0);
        x.unsee();
        x.unsee();
        x.ways(2, 4);
        x.see(0, 3, 2);
        x.see(1, 3, 2);
        x.see(2, 3, 0);
        due("a STREAM turned: 2 less 0, 0, 2", x.agrees(5), 1);
        x.unsee();
        x.unsee();
        x.unsee();
        x.ways(2, 8);
        x.see(0, 3, 0);
        x.see(1, 3, 1);
        x.see(2, 3, 2);
        due("a STREAM that gives this tick's a", x.agrees(5), 1);
        x.ways(2, 7);
        due("no other way", x.agrees(5), 0);
    }

    private static void agreesOfManyParts() {
        FaultFinder x = wires(8, 3);
        x.ticks(3);
        for (int w = 1; w < 8; w++) {
            x.part(w < 3 ? 20 : 0, w, w - 1, 0);
        }
        for (int t = 0; t < 3; t++) {
            x.see(t, 7, 1 + t % 2);
        }
        due("seven", x.agrees(127), 1);
        x.see(2, 0, 1);
        due("an input is never broken", x.agrees(127), 0);
    }

    private static void weigh() {
        FaultFinder x = eachKind();
        x.odds(0, 2);
        x.odds(1, 3);
        x.odds(2, 9);
        x.odds(3, 5);
        due("none", x.weigh(0), 8 * 7 * 1 * 5);
        due("one", x.weigh(1), 2 * 7 * 1 * 5);
        due("all", x.weigh(15), 2 * 3 * 9 * 5);
        x.sound(0, true);
        due("SOUND doesn't matter", x.weigh(1), 70);
        due("a METER", x.weigh(16), 0);
        due("status(NO)", x.status(NO), 1);
        due("bits of no part", x.weigh(48), 0);
        due("below 0", x.weigh(-1), 0);
        due("status(BEYOND)", x.status(BEYOND), 2);
        due("status(NO)", x.status(NO), 1);
    }

    private static void likely() {
        FaultFinder x = chain();
        x.see(0, 3, 1);
        due("all alike: the first", x.likely(), 0);
        x.odds(2, 2);
        due("the third", x.likely(), 2);
        x.odds(1, 2);
        due("the second, of two alike", x.likely(), 1);
        x.see(0, 0, 1);
        due("none", x.likely(), MISSING);
    }

    private static void chance() {
        FaultFinder x = chain();
        x.wire(3);
        x.part(40, 4, 3, 0);
        due("the empty story: upper", x.chance(0, false), 0);
        due("the empty story: lower", x.chance(0, true), 1);
        x.see(0, 3, 1);
        due("1 / 3", x.chance(0, false), 1);
        due("1 / 3", x.chance(0, true), 3);
        x.odds(0, 6);
        // 6 * 9 * 9, 4 * 1 * 9, 4 * 9 * 1: 486 of 558, and 36 of 558
        due("27 / 31", x.chance(0, false), 27);
        due("27 / 31", x.chance(0, true), 31);
        due("2 / 31", x.chance(2, false), 2);
        due("2 / 31", x.chance(2, true), 31);
        due("a METER: 0 / 1", x.chance(3, false), 0);
        due("a METER: 0 / 1", x.chance(3, true), 1);
        due("beyond", x.chance(4, true), 0);
        due("below", x.chance(-1, true), 0);
        due("status(BEYOND)", x.status(BEYOND), 2);
        x.see(0, 0, 1);
        due("no story", x.chance(0, true), 0);
        due("no story", x.chance(0, false), 0);
        due("status(MISSING)", x.status(MISSING), 2);
        due("BEYOND ahead of MISSING", x.chance(4, true), 0);
        due("status(BEYOND)", x.status(BEYOND), 3);
    }

    private static void quarrels() {
        FaultFinder x = chain();
        due("none", x.quarrels(), 0);
        x.see(0, 3, 1);
        due("the chain", x.quarrels(), 1);
        x.see(0, 1, 1);
        due("its head, its tail is fine", x.quarrels(), 1);
        due("the head alone", x.quarrel(0), 1);
        x.sound(0, true);
        due("SOUND doesn't matter", x.quarrels(), 1);
        x.see(0, 2, 0);
        due("three", x.quarrels(), 3);
        FaultFinder k = wires(2, 3);
        k.part(10, 1, 0, 0);
        k.see(0, 1, 2);
        due("a KNOWN part: no story", k.stories(), 0);
        due("left out it gives any number", k.judge(0), 0);
        due("it alone", k.quarrel(0), 1);
    }

    private static void quarrel() {
        FaultFinder x = wires(5, 2);
        x.part(0, 4, 3, 0);
        x.part(0, 3, 2, 0);
        x.part(0, 2, 1, 0);
        x.part(30, 1, 0, 0);
        x.see(0, 1, 1);
        x.see(0, 4, 0);
        due("two", x.quarrels(), 2);
        due("the least number first", x.quarrel(0), 7);
        due("then the SOURCE, of fewer parts", x.quarrel(1), 8);
        due("beyond", x.quarrel(2), BEYOND);
        due("below", x.quarrel(-1), BEYOND);
        FaultFinder m = wires(3, 3);
        m.part(40, 1, 0, 0);
        m.part(0, 2, 1, 0);
        m.see(0, 1, 2);
        due("a METER 2 off: nobody's fault", m.quarrels(), 1);
        due("the empty one", m.quarrel(0), 0);
        m.unsee();
        m.see(0, 1, 1);
        due("1 off is fine", m.quarrels(), 0);
        m.see(0, 2, 1);
        due("METERS are left out of it", m.quarrel(0), 2);
        FaultFinder s = wires(2, 2);
        s.ticks(2);
        s.part(20, 1, 0, 0);
        s.see(0, 1, 1);
        due("a STREAM should give 0 at first", s.quarrel(0), 1);
        s.unsee();
        s.set(0, 0, 1);
        s.see(1, 1, 1);
        due("1 + 1 modulo 2", s.quarrels(), 1);
    }

    private static void judge() {
        FaultFinder x = chain();
        x.wire(3);
        x.part(40, 4, 3, 0);
        due("no looks", x.judge(7), 0);
        x.see(0, 2, 1);
        due("too few", x.judge(2), 0);
        due("a quarrel", x.judge(3), 2);
        due("one too many", x.judge(7), 1);
        due("bits of no part", x.judge(16), BEYOND);
        due("below 0", x.judge(-8), BEYOND);
        due("a METER", x.judge(8), NO);
        due("BEYOND ahead of NO", x.judge(24), BEYOND);
        x.sound(0, true);
        due("SOUND doesn't matter", x.judge(3), 2);
        x.see(0, 0, 2);
        due("the empty one", x.judge(0), 2);
        due("more than the empty one", x.judge(1), 1);
    }

    private static void values() {
        FaultFinder x = chain();
        x.see(0, 3, 1);
        for (int i = 0; i < 3; i++) {
            for (int w = 0; w < 4; w++) {
                due("values(0, " + w + ", " + i + ")", x.values(0, w, i), w > i ? 2 : 1);
            }
        }
        due("a tick beyond", x.values(1, 0, 0), BEYOND);
        due("a wire beyond", x.values(0, 4, 0), BEYOND);
        due("a story beyond", x.values(0, 0, 3), BEYOND);
        due("a story below", x.values(0, 0, -1), BEYOND);
        due("counted once", x.status(BEYOND), 4);
        x.ticks(2);
        due("any number in a tick without looks", x.values(1, 1, 0), 7);
        due("one that isn't broken", x.values(1, 1, 1), 1);
        x.wire(2);
        x.part(0, 4, 1, 2);
        due("modulo 2", x.values(1, 4, 1), 3);
    }

    private static void valuesOfMeters() {
        FaultFinder x = wires(4, 3);
        x.part(0, 1, 0, 0);
        x.part(40, 2, 1, 0);
        x.part(0, 3, 1, 0);
        x.see(0, 2, 2);
        due("the story", x.story(0), 1);
        due("the number that it gives: 1 or 2", x.values(0, 2, 0), 6);
        due("what it reads", x.values(0, 1, 0), 6);
        x.unsee();
        due("sound: what it gives, not what may be seen", x.values(0, 2, 0), 1);
    }

    private static void valuesLookAhead() {
        FaultFinder x = wires(3, 3);
        x.ticks(3);
        x.part(0, 1, 0, 0);
        x.part(20, 2, 1, 0);
        x.see(1, 2, 2);
        x.see(2, 2, 1);
        due("the story", x.story(0), 1);
        due("tick 0 by tick 1's look", x.values(0, 1, 0), 4);
        due("tick 1 by tick 2's look", x.values(1, 1, 0), 2);
        due("tick 2 is free", x.values(2, 1, 0), 7);
        due("a STREAM in tick 0", x.values(0, 2, 0), 1);
    }

    private static void worth() {
        FaultFinder x = chain();
        x.see(0, 3, 1);
        due("wire 0: 3 squared", x.worth(0, 0), 9);
        due("wire 1: 2 and 1", x.worth(0, 1), 5);
        due("wire 3", x.worth(0, 3), 9);
        due("a tick beyond", x.worth(1, 0), BEYOND);
        due("a wire beyond", x.worth(0, 4), BEYOND);
        due("a wire below", x.worth(0, -1), BEYOND);
        x.ticks(2);
        due("one has all three numbers", x.worth(1, 1), 9 + 1 + 1);
        x.price(1, 9);
        due("PRICE doesn't matter", x.worth(0, 1), 5);
        x.wire(3);
        x.part(40, 4, 1, 0);
        due("of a METER", x.worth(0, 4), 5);
        x.see(0, 0, 2);
        due("no story", x.worth(0, 1), 0);
    }

    private static void next() {
        FaultFinder x = chain();
        due("none tells", x.next(), NONE);
        x.see(0, 3, 1);
        due("the least wire of two alike", x.next(), 1);
        x.price(1, 2);
        due("the cheaper", x.next(), 2);
        x.price(2, 2);
        due("alike again", x.next(), 1);
        x.unsee();
        x.ticks(2);
        x.price(1, 1);
        x.see(1, 3, 1);
        due("a later tick that tells more", x.next(), 101);
        x.see(0, 3, 1);
        due("the least tick of two alike", x.next(), 1);
        x.price(1, 3);
        due("the cheaper wire", x.next(), 2);
        FaultFinder m = wires(4, 3);
        m.part(0, 1, 0, 0);
        m.part(0, 3, 1, 0);
        m.part(40, 2, 1, 0);
        m.see(0, 3, 1);
        m.price(1, 9);
        due("not at a METER", m.next(), 1);
        m.see(0, 1, 1);
        due("one story is left", m.next(), NONE);
    }

    private static void apart() {
        FaultFinder x = chain();
        x.see(0, 3, 1);
        due("the first two", x.apart(0, 1), 1);
        due("the other way round", x.apart(1, 0), 1);
        due("the last two", x.apart(1, 2), 2);
        due("one and itself", x.apart(1, 1), NONE);
        due("i beyond", x.apart(3, 0), BEYOND);
        due("j beyond", x.apart(0, 3), BEYOND);
        due("i below", x.apart(-1, 0), BEYOND);
        due("j below", x.apart(0, -1), BEYOND);
        FaultFinder k = wires(4, 3);
        k.ticks(2);
        k.part(10, 1, 0, 0);
        k.part(10, 2, 1, 0);
        k.part(40, 3, 1, 0);
        k.ways(0, 10);
        k.ways(1, 2);
        k.see(0, 2, 2);
        due("two stories", k.stories(), 2);
        k.see(0, 1, 2);
        due("one story", k.stories(), 1);
        k.unsee();
        due("by wire 1", k.apart(0, 1), 1);
        FaultFinder late = wires(3, 3);
        late.ticks(2);
        late.part(12, 1, 0, 0);
        late.part(12, 2, 1, 1);
        late.set(1, 0, 1);
        late.see(1, 2, 0);
        due("both give 0 all along", late.stories(), 2);
        due("by tick 1", late.apart(0, 1), 101);
        FaultFinder never = wires(4, 3);
        never.ticks(2);
        never.part(0, 1, 0, 0);
        never.part(20, 2, 1, 0);
        never.part(0, 3, 1, 2);
        never.see(1, 3, 1);
        due("two stories", never.stories(), 2);
        due("wire 1 was off in one tick or in the other: by none", never.apart(0, 1), NONE);
        due("the values overlap", never.values(0, 1, 0), 7);
    }

    private static void lay() {
        FaultFinder x = wires(3, 3);
        x.part(0, 2, 0, 1);
        x.ticks(2);
        x.set(0, 0, 1);
        x.set(1, 1, 2);
        due("tick 0", x.lay(0), 3);
        due("row(0)", x.row(0), 1);
        due("row(1)", x.row(1), 0);
        due("row(2)", x.row(2), 1);
        due("tick 1", x.lay(1), 3);
        due("row(0)", x.row(0), 0);
        due("row(2)", x.row(2), 2);
        due("beyond", x.lay(2), BEYOND);
        due("below", x.lay(-1), BEYOND);
        due("the row is as it was", x.row(2), 2);
        x.wire(2);
        x.set(1, 1, 0);
        due("what comes later isn't in it", x.row(3), BEYOND);
        due("nor what changes", x.row(1), 2);
        due("of no wires", new FaultFinder().lay(0), 0);
    }

    private static void tear() {
        FaultFinder x = wires(1, 2);
        due("at first", x.tear(), 0);
        x.lay(0);
        due("it was there", x.tear(), 1);
        due("not any more", x.tear(), 0);
        due("row(0)", x.row(0), MISSING);
        FaultFinder none = new FaultFinder();
        none.lay(0);
        due("a row without numbers is there", none.tear(), 1);
    }

    private static void row() {
        FaultFinder x = wires(2, 2);
        x.set(0, 1, 1);
        due("missing", x.row(0), MISSING);
        due("missing ahead of beyond", x.row(99), MISSING);
        x.lay(0);
        due("row(0)", x.row(0), 0);
        due("row(1)", x.row(1), 1);
        due("beyond", x.row(2), BEYOND);
        due("below", x.row(-1), BEYOND);
        due("LEAST", x.row(LEAST), BEYOND);
    }

    private static FaultFinder laid() {
        FaultFinder x = wires(5, 3);
        int[] v = {2, 1, 0, 2, 2};
        for (int i = 0; i < 5; i++) {
            x.set(0, i, v[i]);
        }
        x.lay(0);
        return x;
    }

    private static void copy() {
        FaultFinder x = new FaultFinder();
        due("missing", x.copy(0, 0, -1), MISSING);
        x = laid();
        due("a count below 0", x.copy(-1, 0, -1), BELOW);
        due("i below 0", x.copy(-1, 0, 0), COPY);
        due("j below 0", x.copy(0, -1, 0), COPY);
        due("i + n above", x.copy(3, 0, 3), COPY);
        due("j + n above", x.copy(0, 3, 3), COPY);
        due("i above", x.copy(6, 0, 0), COPY);
        due("wrapping round", x.copy(MOST, 0, MOST), COPY);
        due("wrapping round", x.copy(1, 1, MOST), COPY);
        due("none, at the end", x.copy(5, 5, 0), 0);
        due("all", x.copy(0, 0, 5), 5);
        due("forth over itself", x.copy(0, 1, 4), 4);
        int[] forth = {2, 2, 1, 0, 2};
        for (int i = 0; i < 5; i++) {
            due("row(" + i + ")", x.row(i), forth[i]);
        }
        due("back over itself", x.copy(2, 0, 3), 3);
        int[] back = {1, 0, 2, 0, 2};
        for (int i = 0; i < 5; i++) {
            due("row(" + i + ")", x.row(i), back[i]);
        }
    }

    private static void status() {
        FaultFinder x = laid();
        x.tear();
        x.row(0);
        x.unsee();
        x.likely();
        x.part(30, 9, 0, 0);
        x.part(40, 1, 0, 0);
        x.sound(0, true);
        x.sound(0, true);
        x.sound(0, true);
        x.lay(0);
        x.copy(0, 0, -1);
        x.copy(0, 9, 1);
        x.copy(0, 9, 1);
        for (int i = 0; i < 11; i++) {
            x.wire(2);
        }
        x.price(0, 10);
        due("MISSING", x.status(MISSING), 2);
        due("BEYOND", x.status(BEYOND), 1);
        due("BELOW", x.status(BELOW), 1);
        due("KIND", x.status(KIND), 3);
        due("COPY", x.status(COPY), 2);
        due("NO", x.status(NO), 1);
        due("FULL", x.status(FULL), 2);
        due("NONE", x.status(NONE), NO);
        due("-9", x.status(-9), NO);
        due("MOST", x.status(MOST), NO);
        due("LEAST", x.status(LEAST), NO);
        due("these were refused too", x.status(NO), 5);
        x.next();
        x.count(4, 0);
        due("NONE is no refusal", x.status(MISSING), 2);
    }
}
