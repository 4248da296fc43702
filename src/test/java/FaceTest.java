import java.io.IOException;
import java.lang.management.ManagementFactory;
import java.lang.reflect.Constructor;
import java.lang.reflect.Field;
import java.lang.reflect.InvocationTargetException;
import java.lang.reflect.Method;
import java.lang.reflect.Modifier;
import java.nio.file.Files;
import java.nio.file.Path;
import java.util.Arrays;
import java.util.NoSuchElementException;
import java.util.Random;
import java.util.Set;
import java.util.TreeSet;

/** The face and the language's rules, the room that calls take, and calls with any arguments. */
public final class FaceTest {
    private static final Check CHECK = new Check();
    private static final Set<String> FACE = Set.of("int feed(long,long,long)", "int custom()", "int hill(int,int)",
            "int purse(int)", "int loan(int,int)", "int day(int)", "boolean early(int)", "boolean undo()", "int ruined()",
            "int has(int)", "long worth(int,int,int)", "long chance(int,int,int)", "int better(int,int)",
            "int fits(int,int,int)", "int fit(int,int,int,int)", "int gain(int,int)", "int sure(int)",
            "int lots(int,int,int)", "boolean mark(int,boolean)", "int count(int)");

    private static String told(Method m) {
        String types = String.join(",", Arrays.stream(m.getParameterTypes()).map(Class::getName).toList());
        return m.getReturnType().getName() + " " + m.getName() + "(" + types + ")";
    }

    private static void members() {
        Set<String> seen = new TreeSet<>();
        Set<String> names = new TreeSet<>();
        for (Method m : RainLoans.class.getDeclaredMethods()) {
            if (Modifier.isPublic(m.getModifiers())) {
                seen.add(told(m));
                names.add(m.getName());
                boolean throwing = Set.of("purse", "has", "gain").contains(m.getName());
                CHECK.same(m.getName() + " tells what it throws", m.getExceptionTypes().length, throwing ? 1 : 0);
            }
        }
        CHECK.same("the methods are the face: " + seen, seen.equals(FACE), true);
        for (Method m : RainLoans.class.getDeclaredMethods()) {
            boolean face = Modifier.isPublic(m.getModifiers());
            CHECK.same(m + " is private", face || Modifier.isPrivate(m.getModifiers()), true);
            CHECK.same(m + " has a name of its own", face || !names.contains(m.getName()), true);
        }
        for (Field f : RainLoans.class.getDeclaredFields()) {
            CHECK.same(f + " is private", f.getName().equals("NONE") || Modifier.isPrivate(f.getModifiers()), true);
        }
        for (Constructor<?> c : RainLoans.class.getDeclaredConstructors()) {
            CHECK.same(c + " takes nothing", c.getParameterCount(), 0);
        }
        for (Class<?> c : RainLoans.class.getDeclaredClasses()) {
            int m = c.getModifiers();
            CHECK.same(c + " is static", Modifier.isStatic(m) && !Modifier.isPublic(m) && !Modifier.isProtected(m), true);
            CHECK.same(c + " is short of fields", c.isEnum() || c.getDeclaredFields().length <= 25, true);
        }
        CHECK.same("twelve classes at most", RainLoans.class.getDeclaredClasses().length <= 11, true);
        CHECK.same("the class is final", Modifier.isFinal(RainLoans.class.getModifiers()), true);
    }

    private static void source() throws IOException {
        String text = Files.readString(Path.of("src/main/java/RainLoans.java"));
        for (String banned : new String[] {"->", "::", "Exact(", "finally", "synchronized", "assert", "catch", "try",
            "Thread", "double", "float", "getMessage", "instanceof", "package ", "protected", "ordinal", "Object"}) {
            CHECK.same("no " + banned, text.contains(banned), false);
        }
        CHECK.same("one import", text.split("\\bimport ", -1).length, 2);
        CHECK.same("System is for arraycopy alone", text.replace("System.arraycopy", "").contains("System."), false);
        int since = 0;
        String[] lines = text.split("\n");
        for (int i = 0; i < lines.length; i++) {
            boolean begins = lines[i].matches(" +[^*/]*\\) (throws \\w+ )?\\{") && lines[i].matches("( {4}| {8})\\S.*");
            since = begins ? i : since;
            CHECK.same("line " + (i + 1) + " is of a short method",
                    lines[i].matches(" {4,8}}") && !lines[i - 1].contains("enum") && i - since > 60 && since > 0
                    && lines[since].indexOf(lines[since].trim()) == lines[i].indexOf('}'), false);
            CHECK.same("line " + (i + 1) + " is short", lines[i].length() <= 120, true);
        }
    }

    private static String large() {
        StringBuilder text = new StringBuilder("hill h dry 4 wet 4;");
        for (char c = 'a'; c <= 'f'; c++) {
            text.append("purse ").append(c).append(" 99;");
        }
        for (int i = 0; i < 10; i++) {
            text.append("loan ").append((char) ('a' + i % 6)).append(" to ").append((char) ('a' + (i + 1) % 6))
                    .append(" coins 99 rate 9 due 9 on h plain bail ").append((char) ('a' + (i + 2) % 6)).append(";");
        }
        for (int i = 0; i < 8; i++) {
            text.append("bet 1 pays 2 if((first));");
        }
        return text.toString();
    }

    /** All calls of a run live in one room: dear ones make nothing. */
    private static void room() {
        com.sun.management.ThreadMXBean threads = (com.sun.management.ThreadMXBean) ManagementFactory.getThreadMXBean();
        long self = Thread.currentThread().getId();
        long[][] packed = packed(large());
        long before = threads.getThreadAllocatedBytes(self);
        RainLoans x = new RainLoans();
        long made = threads.getThreadAllocatedBytes(self);
        long sum = 0;
        for (int i = 0; i < 12; i++) {
            for (long[] l : packed) {
                x.feed(l[0], l[1], l[2]);
            }
            CHECK.same("custom()", x.custom(), 0);
            sum += x.worth(3, 12, 0) + x.chance(4, 12, 1) + x.better(2, 12) + x.fits(12, 1, 9) + x.fit(12, 1, 9, 3);
            sum += x.sure(1) + x.lots(7, 20, 1) + x.day(1) + x.loan(1, 2) + x.ruined();
            sum += x.mark(i % 4, false) && x.early(1) && x.undo() && x.mark(i % 4, true) ? 1 : 0;
        }
        long after = threads.getThreadAllocatedBytes(self);
        CHECK.same("a new object takes at most 100,000 bytes: " + (made - before), made - before < 100000, true);
        CHECK.same("calls make nothing: " + (after - made) + " of " + sum, after - made < 20000, true);
    }

    private static long[][] packed(String text) {
        byte[] bytes = text.getBytes(java.nio.charset.StandardCharsets.ISO_8859_1);
        long[][] longs = new long[(bytes.length + 23) / 24][];
        for (int i = 0; i < longs.length; i++) {
            longs[i] = Check.pack(bytes, 24 * i);
        }
        return longs;
    }

    private static Object drawn(Class<?> type, Random random) {
        int[] edges = {Integer.MIN_VALUE, -2, -1, 0, 1, 2, 3, 4, 7, 8, 9, 10, 12, 13, 15, 16, 20, 21, 31, 32, 33, 63, 64,
            255, 256, 9999, 10000, 99999, 100000, 1 << 30, Integer.MAX_VALUE};
        if (type == boolean.class) {
            return random.nextBoolean();
        }
        return type == int.class ? (Object) edges[random.nextInt(edges.length)] : (Object) random.nextLong();
    }

    /** Only what the document names is thrown, whatever comes. */
    private static void anyArguments() throws IllegalAccessException {
        Random random = new Random(7);
        Method[] methods = Arrays.stream(RainLoans.class.getDeclaredMethods())
                .filter(m -> Modifier.isPublic(m.getModifiers())).sorted(java.util.Comparator.comparing(Method::getName))
                .toArray(Method[]::new);
        for (int run = 0; run < 40; run++) {
            RainLoans x = new RainLoans();
            for (int call = 0; call < 600; call++) {
                if (call % 100 == 50) {
                    x.custom();
                    CHECK.same("custom()", Check.tell(x, large()), 0);
                }
                Method m = methods[random.nextInt(methods.length)];
                Object[] with = Arrays.stream(m.getParameterTypes()).map(t -> drawn(t, random)).toArray();
                try {
                    m.invoke(x, with);
                } catch (InvocationTargetException e) {
                    boolean told = m.getExceptionTypes().length == 1
                            && e.getCause().getClass() == NoSuchElementException.class;
                    CHECK.same(m.getName() + Arrays.toString(with) + " throws " + e.getCause(), told, true);
                }
            }
        }
    }

    public static void main(String[] args) throws Exception {
        members();
        source();
        room();
        anyArguments();
        CHECK.end();
    }
}
