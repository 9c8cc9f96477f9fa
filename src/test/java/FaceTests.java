import java.io.IOException;
import java.lang.management.ManagementFactory;
import java.lang.reflect.Constructor;
import java.lang.reflect.Field;
import java.lang.reflect.Method;
import java.lang.reflect.Modifier;
import java.nio.file.Files;
import java.nio.file.Path;
import java.util.Arrays;
import java.util.Set;
import java.util.TreeSet;
import java.util.regex.Matcher;
import java.util.regex.Pattern;
import java.util.stream.Collectors;

/** The class as a whole: its face, what LANGUAGE.md rules out, and the room that calls take. */
public final class FaceTests {
    private static final String[] METHODS = {
        "int wire(int)", "int part(int, int, int, int)", "int table(int, int, int)", "int ways(int, int)",
        "int odds(int, int)", "int price(int, int)", "int ticks(int)", "int set(int, int, int)",
        "int sound(int, boolean)", "int look(int, int)", "int count(int, int)", "int see(int, int, int)",
        "int unsee()", "int due(int, int)", "int stories()", "int story(int)", "int agrees(int)", "long weigh(int)",
        "int likely()", "long chance(int, boolean)", "int quarrels()", "int quarrel(int)", "int judge(int)",
        "int values(int, int, int)", "int worth(int, int)", "int next()", "int apart(int, int)", "int lay(int)",
        "int tear()", "int row(int)", "int copy(int, int, int)", "int status(int)"};
    private static final String[] CONSTANTS = {
        "NONE", "MISSING", "BEYOND", "BELOW", "KIND", "COPY", "NO", "FULL"};

    private static int wrong = 0;

    private static void hold(boolean holds, String what) {
        if (!holds) {
            wrong++;
            System.out.println("not so: " + what);
        }
    }

    public static void main(String[] args) throws Exception {
        face();
        nestedClasses();
        source();
        room();
        System.out.println(wrong == 0 ? "the class is as it should be" : wrong + " things are not as they should be");
        if (wrong != 0) {
            System.exit(1);
        }
    }

    private static void face() throws IllegalAccessException {
        Class<?> c = FaultFinder.class;
        hold(Modifier.isPublic(c.getModifiers()) && Modifier.isFinal(c.getModifiers()), "the class is public and final");
        Set<String> seen = new TreeSet<>();
        Set<String> publicNames = new TreeSet<>();
        for (Method m : c.getDeclaredMethods()) {
            if (!Modifier.isPrivate(m.getModifiers())) {
                String types = Arrays.stream(m.getParameterTypes()).map(Class::getName).collect(Collectors.joining(", "));
                seen.add(m.getReturnType().getName() + " " + m.getName() + "(" + types + ")");
                publicNames.add(m.getName());
                hold(m.getModifiers() == Modifier.PUBLIC, m + " is just public");
            }
        }
        hold(seen.equals(new TreeSet<>(Arrays.asList(METHODS))), "the methods are the document's: " + seen);
        for (Method m : c.getDeclaredMethods()) {
            hold(!Modifier.isPrivate(m.getModifiers()) || !publicNames.contains(m.getName()), m + " has its own name");
        }
        Set<String> constants = new TreeSet<>();
        for (Field f : c.getDeclaredFields()) {
            if (!Modifier.isPrivate(f.getModifiers())) {
                constants.add(f.getName());
                int place = Arrays.asList(CONSTANTS).indexOf(f.getName());
                hold(place >= 0 && f.getInt(null) == -1 - place, f + " has its number");
            }
        }
        hold(constants.size() == CONSTANTS.length, "the constants are the document's: " + constants);
        Constructor<?>[] made = c.getDeclaredConstructors();
        hold(made.length == 1 && made[0].getParameterCount() == 0 && Modifier.isPublic(made[0].getModifiers()),
                "there is one constructor");
    }

    private static void nestedClasses() {
        Class<?>[] inside = FaultFinder.class.getDeclaredClasses();
        hold(inside.length <= 12, "at most 12 classes");
        for (Class<?> c : inside) {
            hold(Modifier.isStatic(c.getModifiers()), c + " is static");
            hold(!Modifier.isPublic(c.getModifiers()), c + " isn't public");
            long fields = Arrays.stream(c.getDeclaredFields()).filter(f -> !Modifier.isStatic(f.getModifiers())).count();
            hold(fields <= 20, c + " has at most 20 fields");
            for (Method m : c.getDeclaredMethods()) {
                hold(m.getParameterCount() <= 7, m + " takes at most 7 parameters");
                hold(Arrays.stream(METHODS).noneMatch(t -> t.contains(" " + m.getName() + "(")), m + " has its own name");
            }
        }
    }

    private static void source() throws IOException {
        String text = Files.readString(Path.of("src/main/java/FaultFinder.java"));
        String code = text.replaceAll("(?s)/\\*.*?\\*/", "").replaceAll("//[^\n]*", "");
        String[] words = {"throw", "throws", "try", "catch", "finally", "synchronized", "assert", "package", "protected"};
        for (String word : words) {
            hold(!Pattern.compile("\\b" + word + "\\b").matcher(code).find(), "there is no " + word);
        }
        hold(!code.contains("->") && !code.contains("::"), "there is no lambda and no method reference");
        hold(!code.contains("\""), "there is no text");
        Matcher calls = Pattern.compile("\\b(Arrays|System|Math|Integer|Long)\\.(\\w+)").matcher(code);
        Set<String> allowed = Set.of("Arrays.fill", "System.arraycopy", "Integer.bitCount");
        while (calls.find()) {
            hold(allowed.contains(calls.group()), calls.group() + " is in the library that is used");
        }
        Matcher imports = Pattern.compile("import ([^;]+);").matcher(code);
        while (imports.find()) {
            hold(imports.group(1).equals("java.util.Arrays"), imports.group(1) + " is imported");
        }
    }

    /** Whatever is made is made with the object; calls make nothing. */
    private static void room() {
        com.sun.management.ThreadMXBean bean = (com.sun.management.ThreadMXBean) ManagementFactory.getThreadMXBean();
        if (!bean.isThreadAllocatedMemorySupported() || !bean.isThreadAllocatedMemoryEnabled()) {
            return;
        }
        long id = Thread.currentThread().getId();
        everyCall(new FaultFinder());
        bean.getThreadAllocatedBytes(id);
        long before = bean.getThreadAllocatedBytes(id);
        FaultFinder x = new FaultFinder();
        long made = bean.getThreadAllocatedBytes(id);
        for (int i = 0; i < 8; i++) {
            everyCall(x);
        }
        long after = bean.getThreadAllocatedBytes(id);
        hold(made - before < 40_000, "an object is small: " + (made - before) + " bytes");
        hold(after - made < 4_000, "calls make nothing: " + (after - made) + " bytes");
    }

    private static void everyCall(FaultFinder x) {
        x.ticks(3);
        for (int w = 0; w < 9; w++) {
            x.wire(3);
        }
        for (int w = 2; w < 9; w++) {
            x.part(w % 3 * 10, w, w - 1, w - 2);
            x.ways(w - 2, 15);
        }
        x.set(0, 0, 1);
        x.table(0, 0, 1);
        x.odds(1, 2);
        x.price(3, 2);
        x.sound(3, true);
        x.sound(3, false);
        x.unsee();
        x.see(1, 8, 2 - x.due(1, 8));
        x.see(2, 7, 1);
        x.stories();
        x.story(0);
        x.agrees(127);
        x.weigh(3);
        x.likely();
        x.chance(1, true);
        x.quarrels();
        x.quarrel(0);
        x.judge(127);
        x.values(1, 4, 0);
        x.worth(1, 4);
        x.next();
        x.apart(0, 1);
        x.look(0, 5);
        x.count(4, 4);
        x.lay(2);
        x.row(1);
        x.copy(0, 1, 2);
        x.tear();
        x.status(-3);
    }
}
