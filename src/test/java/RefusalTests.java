import java.lang.reflect.InvocationTargetException;
import java.lang.reflect.Method;
import java.lang.reflect.Modifier;
import java.util.EnumMap;
import java.util.HashMap;
import java.util.Map;

/**
 * Every refusal that the line of a promise names: just outside its bounds and just inside them, which one comes first
 * where two apply, and that a refused call changes nothing but status().
 */
public final class RefusalTests {
    private static final int NONE = -1;
    private static final int MISSING = -2;
    private static final int BEYOND = -3;
    private static final int BELOW = -4;
    private static final int KIND = -5;
    private static final int COPY = -6;
    private static final int NO = -7;
    private static final int FULL = -8;
    private static final int MOST = Integer.MAX_VALUE;
    private static final int LEAST = Integer.MIN_VALUE;
    private static final int MOST_CALLS = 512;

    private static final Map<String, Method> METHODS = new HashMap<>();
    private static final Map<Machine, String> AS_TOLD = new EnumMap<>(Machine.class);
    private static final Map<Machine, String> AS_FOUND = new EnumMap<>(Machine.class);

    private static int wrong = 0;
    private static int checked = 0;
    private static String promise = "";

    private static void hold(boolean holds, String what) {
        checked++;
        if (!holds) {
            wrong++;
            System.out.println("promise " + promise + ": " + what);
        }
    }

    public static void main(String[] args) {
        for (Method m : FaultFinder.class.getDeclaredMethods()) {
            if (Modifier.isPublic(m.getModifiers())) {
                METHODS.put(m.getName(), m);
            }
        }
        theMachine();
        whatIsSeen();
        storiesAndQuarrels();
        looks();
        rows();
        anyArguments();
        System.out.println(checked + " answers checked, " + wrong + " wrong");
        if (wrong != 0) {
            System.exit(1);
        }
    }

    /** An object, with its calls counted: behind the last that the document speaks of, answers are free. */
    private static final class Run {
        private final FaultFinder finder = new FaultFinder();
        private int calls = 0;

        long ask(String name, int... a) {
            calls++;
            if (calls > MOST_CALLS) {
                throw new IllegalStateException("this test asks too much of one object");
            }
            Method m = METHODS.get(name);
            Object[] given = new Object[a.length];
            for (int i = 0; i < a.length; i++) {
                given[i] = m.getParameterTypes()[i] == boolean.class ? (Object) (a[i] == 1) : (Object) a[i];
            }
            try {
                return ((Number) m.invoke(finder, given)).longValue();
            } catch (InvocationTargetException e) {
                hold(false, text(name, a) + " threw " + e.getCause());
                return LEAST;
            } catch (IllegalAccessException e) {
                throw new IllegalStateException(e);
            }
        }
    }

    /** The states from which calls are tried. */
    private enum Machine {
        EMPTY, BUSY, STREAMS, CROWDED, QUIET, IMPOSSIBLE, TORN;

        Run make() {
            Run run = new Run();
            switch (this) {
                case EMPTY: break;
                case STREAMS: layStreams(run); break;
                case CROWDED: layCrowd(run); break;
                default: layBusy(run); break;
            }
            if (this == QUIET) {
                run.ask("ticks", 1);
                run.ask("unsee");
            }
            if (this == IMPOSSIBLE) {
                run.ask("see", 1, 6, 0);
            }
            if (this == TORN) {
                run.ask("tear");
            }
            return run;
        }

        /**
         * Wires 0 .. 6, of which 0 and 6 are inputs; on wires 1 .. 5 a PLAIN part, a KNOWN one, a STREAM, a SOURCE that
         * is told to be sound, a METER. Two ticks, two looks, two stories (1 and 2), one quarrel (3),
         * a row of all seven.
         */
        private static void layBusy(Run run) {
            int[] ranges = {3, 3, 3, 2, 3, 3, 2};
            for (int range : ranges) {
                run.ask("wire", range);
            }
            run.ask("ticks", 2);
            run.ask("part", 0, 1, 0, 0);
            run.ask("part", 15, 2, 0, 1);
            run.ask("part", 22, 3, 1, 2);
            run.ask("part", 30, 4, 0, 0);
            run.ask("part", 40, 5, 1, 0);
            run.ask("set", 0, 0, 1);
            run.ask("set", 1, 0, 2);
            run.ask("set", 1, 6, 1);
            run.ask("table", 1, 5, 1);
            run.ask("table", 3, 0, 1);
            run.ask("ways", 1, 7);
            run.ask("ways", 2, 11);
            run.ask("odds", 0, 2);
            run.ask("odds", 1, 3);
            run.ask("price", 1, 4);
            run.ask("price", 6, 9);
            run.ask("sound", 3, 1);
            run.ask("see", 0, 2, 0);
            run.ask("see", 1, 5, 1);
            run.ask("lay", 1);
        }

        private static void layStreams(Run run) {
            for (int w = 0; w < 6; w++) {
                run.ask("wire", 3);
            }
            run.ask("part", 20, 1, 0, 0);
            run.ask("part", 21, 2, 1, 0);
        }

        /** As many wires, parts, streams and ticks as can be, and looks at the first 16 places: part 2 is broken. */
        private static void layCrowd(Run run) {
            for (int w = 0; w < 14; w++) {
                run.ask("wire", 3);
            }
            run.ask("ticks", 3);
            for (int p = 0; p < 7; p++) {
                run.ask("part", p < 2 ? 20 : 0, 13 - p, 12 - p, 0);
            }
            for (int i = 0; i < 16; i++) {
                run.ask("see", i / 14, i % 14, i == 11 ? 1 : 0);
            }
        }
    }

    /** All that was told of the machine, asked by calls that may change it: the object is of no use behind it. */
    private static String asTold(Run run) {
        StringBuilder text = new StringBuilder();
        for (int what = 0; what < 4; what++) {
            text.append(run.ask("count", what, 0)).append(' ');
        }
        long wires = run.ask("count", 0, 0);
        long parts = run.ask("count", 1, 0);
        long ticks = run.ask("count", 2, 0);
        for (int i = 0; i < 14; i++) {
            text.append(run.ask("row", i)).append(i < 13 ? " " : "\n");
        }
        for (int p = 0; p < parts; p++) {
            for (int what = 0; what < 8; what++) {
                text.append(run.ask("look", p, what)).append(' ');
            }
            for (int at = 0; at < 9; at++) {
                text.append(run.ask("table", p, at, 0)).append(at < 8 ? " " : "\n");
            }
        }
        for (int w = 0; w < wires; w++) {
            text.append(run.ask("count", 4, w)).append(' ').append(run.ask("count", 5, w)).append(' ');
            text.append(run.ask("price", w, 1)).append('\n');
            for (int t = 0; t < ticks; t++) {
                text.append(run.ask("set", t, w, 0)).append(' ');
            }
        }
        return text.append(run.ask("tear")).append(asSeen(run, (int) ticks, (int) wires)).toString();
    }

    /** Where the looks are, and in which order they came: each goes, and its place is free. */
    private static String asSeen(Run run, int ticks, int wires) {
        StringBuilder text = new StringBuilder("\n");
        for (int t = 0; t < ticks; t++) {
            for (int w = 0; w < wires; w++) {
                long answer = run.ask("see", t, w, 0);
                text.append(answer).append(' ');
                if (answer > 0) {
                    run.ask("unsee");
                }
            }
        }
        for (long left = run.ask("unsee"); left >= 0; left = run.ask("unsee")) {
            text.append(left).append(' ');
        }
        return text.toString();
    }

    /** All that is found out, as far as one object may be asked. */
    private static String asFound(Run run) {
        StringBuilder text = new StringBuilder();
        long wires = run.ask("count", 0, 0);
        long ticks = run.ask("count", 2, 0);
        long stories = run.ask("stories");
        for (int i = 0; i < stories; i++) {
            text.append(run.ask("story", i)).append(' ');
        }
        long quarrels = run.ask("quarrels");
        for (int i = 0; i < quarrels; i++) {
            text.append(run.ask("quarrel", i)).append(' ');
        }
        text.append(run.ask("likely")).append(' ').append(run.ask("next")).append(' ').append(run.ask("weigh", 0));
        for (int p = 0; p < 7; p++) {
            text.append(' ').append(run.ask("chance", p, 0)).append('/').append(run.ask("chance", p, 1));
        }
        for (int t = 0; t < ticks; t++) {
            for (int w = 0; w < wires; w++) {
                text.append('\n').append(run.ask("due", t, w)).append(' ').append(run.ask("worth", t, w));
                for (int i = 0; i < Math.min(3, stories); i++) {
                    text.append(' ').append(run.ask("values", t, w, i));
                }
            }
        }
        return text.toString();
    }

    private static String text(String name, int... a) {
        StringBuilder text = new StringBuilder(name).append('(');
        for (int i = 0; i < a.length; i++) {
            text.append(i > 0 ? ", " : "").append(a[i]);
        }
        return text.append(')').toString();
    }

    /** A call that is refused, and answers by what it is refused. */
    private static void refused(Machine machine, int by, String name, int... a) {
        refusedBy(machine, by, by, name, a);
    }

    /** A call of weigh() or chance(), that answers 0 and leaves it to status() to tell. */
    private static void refusedBy0(Machine machine, int by, String name, int... a) {
        refusedBy(machine, by, 0, name, a);
    }

    private static void refusedBy(Machine machine, int by, int answer, String name, int... a) {
        answers(machine, answer, by, name, a);
        Run told = machine.make();
        told.ask(name, a);
        hold(asTold(told).equals(AS_TOLD.computeIfAbsent(machine, m -> asTold(m.make()))),
                text(name, a) + " of " + machine + " changes what was told");
        Run found = machine.make();
        found.ask(name, a);
        hold(asFound(found).equals(AS_FOUND.computeIfAbsent(machine, m -> asFound(m.make()))),
                text(name, a) + " of " + machine + " changes what is found");
    }

    /** A call that is not refused. */
    private static void taken(Machine machine, long answer, String name, int... a) {
        answers(machine, answer, 0, name, a);
    }

    /** A call's answer, and that status() counts it once where it is refused, and else not at all. */
    private static void answers(Machine machine, long answer, int by, String name, int... a) {
        Run run = machine.make();
        long[] before = new long[9];
        for (int s = FULL; s <= MISSING; s++) {
            before[-s] = run.ask("status", s);
        }
        long got = run.ask(name, a);
        hold(got == answer, text(name, a) + " of " + machine + " answered " + got + ", due is " + answer);
        for (int s = FULL; s <= MISSING; s++) {
            long more = run.ask("status", s) - before[-s];
            hold(more == (s == by ? 1 : 0),
                    "status(" + s + ") grew by " + more + " at " + text(name, a) + " of " + machine);
        }
    }

    /** What is just outside a span, and far outside it. */
    private static int[] outside(int least, int most) {
        return new int[] {least - 1, most + 1, LEAST, MOST};
    }

    private static void theMachine() {
        wire();
        partBeyond();
        partNo();
        partFull();
        partOrder();
        table();
        ways();
        odds();
        price();
        ticks();
        set();
        sound();
        look();
        count();
    }

    private static void wire() {
        promise = "2, wire: NO, FULL";
        for (int range : outside(2, 3)) {
            refused(Machine.EMPTY, NO, "wire", range);
            refused(Machine.CROWDED, NO, "wire", range);
        }
        refused(Machine.EMPTY, NO, "wire", 0);
        refused(Machine.BUSY, NO, "wire", -2);
        taken(Machine.EMPTY, 0, "wire", 2);
        taken(Machine.BUSY, 7, "wire", 3);
        refused(Machine.CROWDED, FULL, "wire", 2);
        refused(Machine.CROWDED, FULL, "wire", 3);
    }

    private static void partBeyond() {
        promise = "3, part: BEYOND: a WIRE";
        for (int w : outside(0, 6)) {
            refused(Machine.BUSY, BEYOND, "part", 0, w, 0, 0);
            refused(Machine.BUSY, BEYOND, "part", 10, 6, w, 0);
            refused(Machine.BUSY, BEYOND, "part", 20, 6, 0, w);
            refused(Machine.BUSY, BEYOND, "part", 40, 6, w, 0);
            refused(Machine.BUSY, BEYOND, "part", 40, w, 0, 0);
            refused(Machine.BUSY, BEYOND, "part", 30, w, 0, 0);
            taken(Machine.BUSY, 5, "part", 40, 6, 0, w);
            taken(Machine.BUSY, 5, "part", 30, 6, w, w);
        }
        refused(Machine.EMPTY, BEYOND, "part", 30, 0, 0, 0);
        taken(Machine.BUSY, 5, "part", 0, 6, 0, 5);
        taken(Machine.BUSY, 5, "part", 0, 6, 5, 0);
        taken(Machine.BUSY, 5, "part", 30, 0, 0, 0);
    }

    private static void partNo() {
        promise = "3, part: NO: KIND, WORK, inputs, a WIRE that is driven";
        for (int told : new int[] {-1, -9, -10, -11, -30, -40, 50, 59, 60, LEAST, MOST}) {
            refused(Machine.BUSY, NO, "part", told, 6, 0, 0);
            refused(Machine.BUSY, NO, "part", told, 6, 7, -1);
        }
        for (int kind = 0; kind <= 2; kind++) {
            taken(Machine.BUSY, 5, "part", 10 * kind, 6, 0, 0);
            taken(Machine.BUSY, 5, "part", 10 * kind + 5, 6, 0, 0);
            refused(Machine.BUSY, NO, "part", 10 * kind + 6, 6, 0, 0);
            refused(Machine.BUSY, NO, "part", 10 * kind + 9, 6, 0, 0);
            refused(Machine.BUSY, NO, "part", 10 * kind, 6, 6, 0);
            refused(Machine.BUSY, NO, "part", 10 * kind, 6, 0, 6);
            refused(Machine.BUSY, NO, "part", 10 * kind, 0, 0, 0);
            refused(Machine.BUSY, NO, "part", 10 * kind, 5, 0, 0);
            refused(Machine.STREAMS, NO, "part", 10 * kind, 3, 5, 0);
            refused(Machine.STREAMS, NO, "part", 10 * kind, 3, 0, 4);
        }
        for (int work = 0; work < 10; work++) {
            taken(Machine.BUSY, 5, "part", 30 + work, 6, 6, 6);
            taken(Machine.BUSY, 5, "part", 40 + work, 6, 5, 6);
            refused(Machine.BUSY, NO, "part", 40 + work, 6, 6, 0);
            refused(Machine.BUSY, NO, "part", 40 + work, 5, 0, 0);
            refused(Machine.BUSY, NO, "part", 30 + work, 5, 0, 0);
        }
    }

    private static void partFull() {
        promise = "3, part: FULL: PARTS, STREAMS";
        for (int kind = 0; kind <= 4; kind++) {
            refused(Machine.CROWDED, FULL, "part", 10 * kind, 5, 4, 3);
        }
        refused(Machine.STREAMS, FULL, "part", 20, 5, 4, 3);
        refused(Machine.STREAMS, FULL, "part", 25, 5, 4, 3);
        for (int told : new int[] {0, 10, 30, 40}) {
            taken(Machine.STREAMS, 2, "part", told, 5, 4, 3);
        }
        taken(Machine.BUSY, 5, "part", 20, 6, 4, 3);
    }

    private static void partOrder() {
        promise = "3, part: BEYOND, NO, FULL, the first of them";
        refused(Machine.BUSY, BEYOND, "part", 50, 7, 0, 0);
        refused(Machine.BUSY, BEYOND, "part", -1, -1, 0, 0);
        refused(Machine.BUSY, BEYOND, "part", 6, 7, 0, 0);
        refused(Machine.BUSY, BEYOND, "part", 6, 6, 7, 0);
        refused(Machine.BUSY, BEYOND, "part", 29, 6, 0, -1);
        refused(Machine.BUSY, BEYOND, "part", 0, 6, 6, 7);
        refused(Machine.BUSY, BEYOND, "part", 0, 6, 7, 6);
        refused(Machine.BUSY, BEYOND, "part", 0, 5, 7, 0);
        refused(Machine.BUSY, BEYOND, "part", 40, 5, -1, 0);
        refused(Machine.CROWDED, BEYOND, "part", 0, 14, 0, 0);
        refused(Machine.CROWDED, BEYOND, "part", 0, 6, 14, 0);
        refused(Machine.CROWDED, BEYOND, "part", 0, 6, 0, 14);
        refused(Machine.STREAMS, BEYOND, "part", 20, 6, 0, 0);
        refused(Machine.CROWDED, NO, "part", 50, 6, 0, 0);
        refused(Machine.CROWDED, NO, "part", 6, 6, 0, 0);
        refused(Machine.CROWDED, NO, "part", 0, 6, 6, 0);
        refused(Machine.CROWDED, NO, "part", 0, 6, 0, 6);
        refused(Machine.CROWDED, NO, "part", 0, 7, 0, 0);
        refused(Machine.CROWDED, NO, "part", 30, 13, 0, 0);
        refused(Machine.STREAMS, NO, "part", 26, 5, 0, 0);
        refused(Machine.STREAMS, NO, "part", 20, 5, 5, 0);
        refused(Machine.STREAMS, NO, "part", 20, 2, 0, 0);
    }

    private static void table() {
        promise = "4, table: BEYOND (PART, place), KIND: a METER; NO: not 0 .. 2";
        for (int p : outside(0, 4)) {
            refused(Machine.BUSY, BEYOND, "table", p, 0, 0);
            refused(Machine.BUSY, BEYOND, "table", p, 0, 3);
        }
        refused(Machine.EMPTY, BEYOND, "table", 0, 0, 0);
        for (int at : outside(0, 8)) {
            refused(Machine.BUSY, BEYOND, "table", 0, at, 0);
            refused(Machine.BUSY, BEYOND, "table", 0, at, 3);
            refused(Machine.BUSY, BEYOND, "table", 4, at, 0);
        }
        refused(Machine.BUSY, KIND, "table", 4, 0, 0);
        refused(Machine.BUSY, KIND, "table", 4, 8, 2);
        for (int v : outside(0, 2)) {
            refused(Machine.BUSY, NO, "table", 0, 0, v);
            refused(Machine.BUSY, NO, "table", 3, 8, v);
            refused(Machine.BUSY, KIND, "table", 4, 0, v);
        }
        for (int p = 0; p < 4; p++) {
            taken(Machine.BUSY, 0, "table", p, 8, 0);
            taken(Machine.BUSY, p == 3 ? 1 : 0, "table", p, 0, 2);
        }
        taken(Machine.BUSY, 1, "table", 1, 5, 0);
    }

    private static void ways() {
        promise = "5, ways: BEYOND, KIND, NO";
        for (int p : outside(0, 4)) {
            refused(Machine.BUSY, BEYOND, "ways", p, 1);
            refused(Machine.BUSY, BEYOND, "ways", p, 0);
        }
        refused(Machine.EMPTY, BEYOND, "ways", 0, 1);
        for (int p : new int[] {0, 3, 4}) {
            refused(Machine.BUSY, KIND, "ways", p, 1);
            refused(Machine.BUSY, KIND, "ways", p, 0);
            refused(Machine.BUSY, KIND, "ways", p, 16);
        }
        for (int ways : outside(1, 15)) {
            refused(Machine.BUSY, NO, "ways", 1, ways);
            refused(Machine.BUSY, NO, "ways", 2, ways);
        }
        for (int ways : new int[] {1, 15}) {
            taken(Machine.BUSY, 7, "ways", 1, ways);
            taken(Machine.BUSY, 11, "ways", 2, ways);
        }
    }

    private static void odds() {
        promise = "6, odds: BEYOND, KIND: a METER; NO";
        for (int p : outside(0, 4)) {
            refused(Machine.BUSY, BEYOND, "odds", p, 1);
            refused(Machine.BUSY, BEYOND, "odds", p, 0);
        }
        refused(Machine.EMPTY, BEYOND, "odds", 0, 1);
        refused(Machine.BUSY, KIND, "odds", 4, 1);
        for (int odds : outside(1, 9)) {
            refused(Machine.BUSY, NO, "odds", 0, odds);
            refused(Machine.BUSY, NO, "odds", 3, odds);
            refused(Machine.BUSY, KIND, "odds", 4, odds);
        }
        int[] before = {2, 3, 1, 1};
        for (int p = 0; p < 4; p++) {
            taken(Machine.BUSY, before[p], "odds", p, 1);
            taken(Machine.BUSY, before[p], "odds", p, 9);
        }
    }

    private static void price() {
        promise = "7, price: BEYOND, NO";
        for (int w : outside(0, 6)) {
            refused(Machine.BUSY, BEYOND, "price", w, 1);
            refused(Machine.BUSY, BEYOND, "price", w, 10);
        }
        refused(Machine.EMPTY, BEYOND, "price", 0, 1);
        for (int price : outside(1, 9)) {
            refused(Machine.BUSY, NO, "price", 0, price);
            refused(Machine.BUSY, NO, "price", 5, price);
        }
        taken(Machine.BUSY, 1, "price", 0, 9);
        taken(Machine.BUSY, 9, "price", 6, 1);
        taken(Machine.BUSY, 1, "price", 5, 9);
    }

    private static void ticks() {
        promise = "8, ticks: NO";
        for (int t : outside(1, 3)) {
            refused(Machine.EMPTY, NO, "ticks", t);
            refused(Machine.BUSY, NO, "ticks", t);
            refused(Machine.CROWDED, NO, "ticks", t);
        }
        taken(Machine.EMPTY, 1, "ticks", 1);
        taken(Machine.BUSY, 2, "ticks", 3);
        taken(Machine.CROWDED, 3, "ticks", 1);
    }

    private static void set() {
        promise = "9, set: BEYOND (TICK, WIRE), KIND: a PART drives it; NO: beyond its RANGE";
        for (int t : outside(0, 1)) {
            refused(Machine.BUSY, BEYOND, "set", t, 0, 0);
            refused(Machine.BUSY, BEYOND, "set", t, 1, 0);
            refused(Machine.BUSY, BEYOND, "set", t, 0, 3);
        }
        refused(Machine.CROWDED, BEYOND, "set", 3, 0, 0);
        refused(Machine.EMPTY, BEYOND, "set", 0, 0, 0);
        for (int w : outside(0, 6)) {
            refused(Machine.BUSY, BEYOND, "set", 0, w, 0);
            refused(Machine.BUSY, BEYOND, "set", 1, w, -1);
        }
        for (int w = 1; w <= 5; w++) {
            refused(Machine.BUSY, KIND, "set", 0, w, 0);
            refused(Machine.BUSY, KIND, "set", 1, w, 3);
        }
        for (int v : outside(0, 2)) {
            refused(Machine.BUSY, NO, "set", 0, 0, v);
        }
        for (int v : outside(0, 1)) {
            refused(Machine.BUSY, NO, "set", 1, 6, v);
        }
        taken(Machine.BUSY, 2, "set", 1, 0, 2);
        taken(Machine.BUSY, 1, "set", 0, 0, 0);
        taken(Machine.BUSY, 1, "set", 1, 6, 1);
        taken(Machine.CROWDED, 0, "set", 2, 0, 2);
    }

    private static void sound() {
        promise = "10, sound: BEYOND, KIND: a METER";
        for (int p : outside(0, 4)) {
            refused(Machine.BUSY, BEYOND, "sound", p, 1);
            refused(Machine.BUSY, BEYOND, "sound", p, 0);
        }
        refused(Machine.EMPTY, BEYOND, "sound", 0, 1);
        refused(Machine.BUSY, KIND, "sound", 4, 1);
        refused(Machine.BUSY, KIND, "sound", 4, 0);
        taken(Machine.BUSY, 0, "sound", 0, 1);
        taken(Machine.BUSY, 1, "sound", 3, 0);
        taken(Machine.CROWDED, 0, "sound", 6, 1);
    }

    private static void look() {
        promise = "11, look: BEYOND, NO";
        for (int p : outside(0, 4)) {
            refused(Machine.BUSY, BEYOND, "look", p, 0);
            refused(Machine.BUSY, BEYOND, "look", p, 8);
        }
        refused(Machine.EMPTY, BEYOND, "look", 0, 0);
        for (int what : outside(0, 7)) {
            refused(Machine.BUSY, NO, "look", 0, what);
            refused(Machine.BUSY, NO, "look", 4, what);
        }
        taken(Machine.BUSY, 0, "look", 0, 0);
        taken(Machine.BUSY, 1, "look", 3, 7);
        taken(Machine.BUSY, NONE, "look", 3, 3);
        taken(Machine.BUSY, NONE, "look", 4, 4);
    }

    private static void count() {
        promise = "12, count: BEYOND (of 4, 5: the WIRE), NO";
        for (int w : outside(0, 6)) {
            refused(Machine.BUSY, BEYOND, "count", 4, w);
            refused(Machine.BUSY, BEYOND, "count", 5, w);
            refused(Machine.BUSY, NO, "count", 6, w);
            refused(Machine.BUSY, NO, "count", -1, w);
            taken(Machine.BUSY, 7, "count", 0, w);
            taken(Machine.BUSY, 5, "count", 1, w);
            taken(Machine.BUSY, 2, "count", 2, w);
            taken(Machine.BUSY, 2, "count", 3, w);
        }
        refused(Machine.EMPTY, BEYOND, "count", 4, 0);
        refused(Machine.EMPTY, BEYOND, "count", 5, 0);
        for (int what : outside(0, 5)) {
            refused(Machine.EMPTY, NO, "count", what, 0);
            refused(Machine.BUSY, NO, "count", what, 0);
        }
        taken(Machine.BUSY, NONE, "count", 4, 6);
        taken(Machine.BUSY, 4, "count", 4, 5);
        taken(Machine.BUSY, 2, "count", 5, 6);
        taken(Machine.BUSY, 3, "count", 5, 0);
    }

    private static void whatIsSeen() {
        see();
        promise = "14, unsee: MISSING: there is none";
        refused(Machine.EMPTY, MISSING, "unsee");
        refused(Machine.STREAMS, MISSING, "unsee");
        refused(Machine.QUIET, MISSING, "unsee");
        taken(Machine.BUSY, 1, "unsee");
        taken(Machine.CROWDED, 15, "unsee");
        promise = "15, due: BEYOND";
        atPlaces("due");
        taken(Machine.BUSY, 1, "due", 0, 0);
        taken(Machine.BUSY, 1, "due", 1, 6);
    }

    private static void see() {
        promise = "13, see: BEYOND (TICK, WIRE), NO: beyond its RANGE, or there is a LOOK there; FULL";
        for (int t : outside(0, 1)) {
            refused(Machine.BUSY, BEYOND, "see", t, 0, 0);
            refused(Machine.BUSY, BEYOND, "see", t, 0, 3);
        }
        for (int w : outside(0, 6)) {
            refused(Machine.BUSY, BEYOND, "see", 0, w, 0);
            refused(Machine.BUSY, BEYOND, "see", 1, w, -1);
        }
        refused(Machine.EMPTY, BEYOND, "see", 0, 0, 0);
        refused(Machine.CROWDED, BEYOND, "see", 3, 0, 0);
        refused(Machine.CROWDED, BEYOND, "see", 0, 14, 0);
        for (int v : outside(0, 2)) {
            refused(Machine.BUSY, NO, "see", 0, 0, v);
            refused(Machine.BUSY, NO, "see", 0, 5, v);
            refused(Machine.BUSY, NO, "see", 0, 2, v);
            refused(Machine.CROWDED, NO, "see", 2, 0, v);
        }
        for (int v : outside(0, 1)) {
            refused(Machine.BUSY, NO, "see", 0, 3, v);
            refused(Machine.BUSY, NO, "see", 1, 6, v);
        }
        for (int v = 0; v < 3; v++) {
            refused(Machine.BUSY, NO, "see", 0, 2, v);
            refused(Machine.BUSY, NO, "see", 1, 5, v);
            refused(Machine.CROWDED, NO, "see", 1, 1, v);
            refused(Machine.CROWDED, FULL, "see", 1, 2, v);
            refused(Machine.CROWDED, FULL, "see", 2, 13, v);
            taken(Machine.BUSY, 3, "see", 1, 2, v);
        }
        taken(Machine.BUSY, 3, "see", 0, 3, 1);
        taken(Machine.BUSY, 3, "see", 1, 6, 1);
    }

    /** A call at a tick and a wire that refuses both by BEYOND. */
    private static void atPlaces(String name) {
        for (int t : outside(0, 1)) {
            refused(Machine.BUSY, BEYOND, name, t, 0);
        }
        for (int w : outside(0, 6)) {
            refused(Machine.BUSY, BEYOND, name, 0, w);
            refused(Machine.BUSY, BEYOND, name, 2, w);
        }
        refused(Machine.EMPTY, BEYOND, name, 0, 0);
        refused(Machine.QUIET, BEYOND, name, 1, 0);
        refused(Machine.CROWDED, BEYOND, name, 3, 0);
        refused(Machine.CROWDED, BEYOND, name, 0, 14);
        refused(Machine.CROWDED, BEYOND, name, 3, 14);
    }

    private static void storiesAndQuarrels() {
        promise = "17, story: BEYOND";
        ofMany("story", 2, 0);
        taken(Machine.BUSY, 1, "story", 0);
        taken(Machine.BUSY, 2, "story", 1);
        agrees();
        weigh();
        promise = "20, likely: MISSING: there is none";
        refused(Machine.IMPOSSIBLE, MISSING, "likely");
        taken(Machine.EMPTY, 0, "likely");
        taken(Machine.BUSY, 1, "likely");
        chance();
        promise = "23, quarrel: BEYOND";
        ofMany("quarrel", 1, 1);
        refused(Machine.QUIET, BEYOND, "quarrel", 0);
        taken(Machine.BUSY, 3, "quarrel", 0);
        taken(Machine.IMPOSSIBLE, 0, "quarrel", 0);
        judge();
    }

    /** A call with a place: how many there are of a busy machine, and of an impossible one. */
    private static void ofMany(String name, int busy, int impossible) {
        for (int i : outside(0, busy - 1)) {
            refused(Machine.BUSY, BEYOND, name, i);
        }
        for (int i : outside(0, impossible - 1)) {
            refused(Machine.IMPOSSIBLE, BEYOND, name, i);
        }
    }

    /** The sets that hold bits of no part, of a machine with parts 0 .. 4: alone, and with part 3 or the METER. */
    private static int[] setsBeyond() {
        return new int[] {32, 32 | 8, 32 | 16, 64, 128 | 16, 1 << 30, LEAST, LEAST | 16, MOST, -1, ~31, ~15};
    }

    private static void agrees() {
        promise = "18, agrees: BEYOND: bits of no PART; NO: a METER, a PART told to be SOUND";
        for (int set : setsBeyond()) {
            refused(Machine.BUSY, BEYOND, "agrees", set);
        }
        refused(Machine.EMPTY, BEYOND, "agrees", 1);
        refused(Machine.EMPTY, BEYOND, "agrees", -1);
        refused(Machine.CROWDED, BEYOND, "agrees", 128);
        for (int set : new int[] {8, 16, 24, 31, 9, 17}) {
            refused(Machine.BUSY, NO, "agrees", set);
        }
        taken(Machine.BUSY, 1, "agrees", 7);
        taken(Machine.BUSY, 0, "agrees", 0);
        taken(Machine.EMPTY, 1, "agrees", 0);
        taken(Machine.CROWDED, 1, "agrees", 127);
    }

    private static void weigh() {
        promise = "19, weigh: BEYOND, NO: a METER: 0, and status() tells of it";
        for (int set : setsBeyond()) {
            refusedBy0(Machine.BUSY, BEYOND, "weigh", set);
        }
        refusedBy0(Machine.EMPTY, BEYOND, "weigh", 1);
        refusedBy0(Machine.CROWDED, BEYOND, "weigh", 128);
        for (int set : new int[] {16, 24, 31}) {
            refusedBy0(Machine.BUSY, NO, "weigh", set);
        }
        taken(Machine.BUSY, 8 * 7 * 9 * 9, "weigh", 0);
        taken(Machine.BUSY, 2 * 3 * 1 * 1, "weigh", 15);
        taken(Machine.EMPTY, 1, "weigh", 0);
        taken(Machine.CROWDED, 1, "weigh", 127);
    }

    private static void chance() {
        promise = "21, chance: BEYOND, MISSING: there is no STORY: 0 likewise";
        for (int lower = 0; lower < 2; lower++) {
            for (int p : outside(0, 4)) {
                refusedBy0(Machine.BUSY, BEYOND, "chance", p, lower);
                refusedBy0(Machine.IMPOSSIBLE, BEYOND, "chance", p, lower);
            }
            refusedBy0(Machine.EMPTY, BEYOND, "chance", 0, lower);
            refusedBy0(Machine.IMPOSSIBLE, MISSING, "chance", 0, lower);
            refusedBy0(Machine.IMPOSSIBLE, MISSING, "chance", 4, lower);
            taken(Machine.BUSY, lower, "chance", 4, lower);
            taken(Machine.BUSY, lower, "chance", 3, lower);
            taken(Machine.QUIET, lower, "chance", 0, lower);
        }
        // The weights are 2 * 7 * 81 of story {0}, 8 * 3 * 81 of story {1}: 14 to 24.
        taken(Machine.BUSY, 7, "chance", 0, 0);
        taken(Machine.BUSY, 19, "chance", 0, 1);
        taken(Machine.BUSY, 12, "chance", 1, 0);
    }

    private static void judge() {
        promise = "24, judge: BEYOND, NO: a METER";
        for (int set : setsBeyond()) {
            refused(Machine.BUSY, BEYOND, "judge", set);
        }
        refused(Machine.EMPTY, BEYOND, "judge", 1);
        refused(Machine.CROWDED, BEYOND, "judge", 128);
        for (int set : new int[] {16, 24, 31}) {
            refused(Machine.BUSY, NO, "judge", set);
        }
        taken(Machine.BUSY, 0, "judge", 0);
        taken(Machine.BUSY, 0, "judge", 12);
        taken(Machine.BUSY, 2, "judge", 3);
        taken(Machine.BUSY, 1, "judge", 15);
        taken(Machine.EMPTY, 0, "judge", 0);
        taken(Machine.IMPOSSIBLE, 2, "judge", 0);
        taken(Machine.IMPOSSIBLE, 1, "judge", 8);
    }

    private static void looks() {
        values();
        promise = "26, worth: BEYOND";
        atPlaces("worth");
        taken(Machine.BUSY, 4, "worth", 0, 0);
        taken(Machine.BUSY, 4, "worth", 1, 6);
        taken(Machine.IMPOSSIBLE, 0, "worth", 1, 6);
        promise = "27, next: NONE is no refusal";
        taken(Machine.EMPTY, NONE, "next");
        taken(Machine.IMPOSSIBLE, NONE, "next");
        promise = "28, apart: BEYOND";
        for (int i : outside(0, 1)) {
            refused(Machine.BUSY, BEYOND, "apart", i, 0);
            refused(Machine.BUSY, BEYOND, "apart", 1, i);
            refused(Machine.BUSY, BEYOND, "apart", i, i);
        }
        refused(Machine.IMPOSSIBLE, BEYOND, "apart", 0, 0);
        refused(Machine.EMPTY, BEYOND, "apart", 0, 1);
        taken(Machine.EMPTY, NONE, "apart", 0, 0);
        taken(Machine.BUSY, NONE, "apart", 1, 1);
        taken(Machine.BUSY, 1, "apart", 0, 1);
    }

    private static void values() {
        promise = "25, values: BEYOND (TICK, WIRE), BEYOND (i)";
        for (int t : outside(0, 1)) {
            refused(Machine.BUSY, BEYOND, "values", t, 0, 0);
        }
        for (int w : outside(0, 6)) {
            refused(Machine.BUSY, BEYOND, "values", 0, w, 0);
        }
        for (int i : outside(0, 1)) {
            refused(Machine.BUSY, BEYOND, "values", 0, 0, i);
            refused(Machine.BUSY, BEYOND, "values", 2, 7, i);
        }
        refused(Machine.EMPTY, BEYOND, "values", 0, 0, 0);
        refused(Machine.IMPOSSIBLE, BEYOND, "values", 0, 0, 0);
        refused(Machine.QUIET, BEYOND, "values", 1, 0, 0);
        refused(Machine.CROWDED, BEYOND, "values", 3, 0, 0);
        refused(Machine.CROWDED, BEYOND, "values", 0, 14, 0);
        taken(Machine.BUSY, 2, "values", 0, 0, 0);
        taken(Machine.BUSY, 2, "values", 1, 6, 1);
    }

    private static void rows() {
        promise = "29, lay: BEYOND";
        for (int t : outside(0, 1)) {
            refused(Machine.BUSY, BEYOND, "lay", t);
            refused(Machine.TORN, BEYOND, "lay", t);
        }
        refused(Machine.EMPTY, BEYOND, "lay", 1);
        refused(Machine.CROWDED, BEYOND, "lay", 3);
        taken(Machine.EMPTY, 0, "lay", 0);
        taken(Machine.BUSY, 7, "lay", 1);
        taken(Machine.CROWDED, 14, "lay", 2);
        promise = "30, tear: no refusal";
        taken(Machine.EMPTY, 0, "tear");
        taken(Machine.TORN, 0, "tear");
        taken(Machine.BUSY, 1, "tear");
        row();
        copy();
        status();
    }

    private static void row() {
        promise = "31, row: MISSING, BEYOND";
        for (int i : outside(0, 6)) {
            refused(Machine.BUSY, BEYOND, "row", i);
            refused(Machine.TORN, MISSING, "row", i);
        }
        refused(Machine.EMPTY, MISSING, "row", 0);
        refused(Machine.TORN, MISSING, "row", 0);
        taken(Machine.BUSY, 2, "row", 0);
        taken(Machine.BUSY, 1, "row", 6);
    }

    private static void copy() {
        promise = "32, copy: MISSING, BELOW: n; COPY: i or j below 0, i + n or j + n above how many there are";
        refused(Machine.EMPTY, MISSING, "copy", 0, 0, 0);
        refused(Machine.TORN, MISSING, "copy", 0, 0, 1);
        refused(Machine.TORN, MISSING, "copy", 0, 0, -1);
        refused(Machine.TORN, MISSING, "copy", -1, 0, 0);
        refused(Machine.TORN, MISSING, "copy", 0, 7, 1);
        for (int n : new int[] {-1, -7, LEAST}) {
            refused(Machine.BUSY, BELOW, "copy", 0, 0, n);
            refused(Machine.BUSY, BELOW, "copy", -1, 0, n);
            refused(Machine.BUSY, BELOW, "copy", 0, MOST, n);
            refused(Machine.BUSY, BELOW, "copy", 8, 8, n);
        }
        for (int n = 0; n <= 7; n++) {
            taken(Machine.BUSY, n, "copy", 0, 0, n);
            taken(Machine.BUSY, n, "copy", 7 - n, 0, n);
            taken(Machine.BUSY, n, "copy", 0, 7 - n, n);
            refused(Machine.BUSY, COPY, "copy", 8 - n, 0, n);
            refused(Machine.BUSY, COPY, "copy", 0, 8 - n, n);
            refused(Machine.BUSY, COPY, "copy", -1, 0, n);
            refused(Machine.BUSY, COPY, "copy", 0, -1, n);
            refused(Machine.BUSY, COPY, "copy", LEAST, 0, n);
            refused(Machine.BUSY, COPY, "copy", 0, LEAST, n);
        }
        refused(Machine.BUSY, COPY, "copy", 0, 0, 8);
        copyThatWraps();
    }

    /** Where i + n or j + n does not fit an int, its bits would be those of a small number or of one below 0. */
    private static void copyThatWraps() {
        for (int n : new int[] {1, 2, 7, MOST - 1, MOST}) {
            refused(Machine.BUSY, COPY, "copy", MOST, 0, n);
            refused(Machine.BUSY, COPY, "copy", 0, MOST, n);
            refused(Machine.BUSY, COPY, "copy", MOST, MOST, n);
            refused(Machine.BUSY, COPY, "copy", MOST - 3, 0, n);
            refused(Machine.BUSY, COPY, "copy", 0, MOST - 3, n);
        }
        for (int at = 0; at <= 8; at++) {
            refused(Machine.BUSY, COPY, "copy", at, 0, MOST);
            refused(Machine.BUSY, COPY, "copy", 0, at, MOST);
            refused(Machine.BUSY, COPY, "copy", at, at, MOST - 2);
        }
        refused(Machine.BUSY, COPY, "copy", MOST, 0, 0);
        refused(Machine.BUSY, COPY, "copy", 0, MOST, 0);
        refused(Machine.BUSY, COPY, "copy", LEAST, LEAST, MOST);
    }

    private static void status() {
        promise = "33, status: NO: another number";
        for (int by : outside(FULL, MISSING)) {
            refused(Machine.EMPTY, NO, "status", by);
            refused(Machine.BUSY, NO, "status", by);
        }
        refused(Machine.EMPTY, NO, "status", 0);
        refused(Machine.EMPTY, NO, "status", 2);
        for (int by = FULL; by <= MISSING; by++) {
            taken(Machine.EMPTY, 0, "status", by);
        }
    }

    /** Whatever the arguments, no call throws, and none answers a number below the last refusal. */
    private static void anyArguments() {
        int[] odd = {LEAST, -1, 0, 1, 2, 7, 14, 42, MOST};
        for (Machine machine : Machine.values()) {
            for (String name : METHODS.keySet()) {
                promise = "of " + name;
                Method m = METHODS.get(name);
                int sorts = (int) Math.pow(odd.length, m.getParameterCount());
                for (int sort = 0; sort < sorts; sort++) {
                    int[] a = new int[m.getParameterCount()];
                    for (int i = 0, rest = sort; i < a.length; i++, rest /= odd.length) {
                        a[i] = odd[rest % odd.length];
                    }
                    Run run = machine.make();
                    long got = run.ask(name, a);
                    hold(got >= FULL, text(name, a) + " of " + machine + " answered " + got);
                    run.ask("next");
                    run.ask("quarrels");
                }
            }
        }
    }
}
