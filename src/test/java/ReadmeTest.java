import java.io.IOException;
import java.lang.reflect.InvocationTargetException;
import java.lang.reflect.Method;
import java.lang.reflect.Modifier;
import java.nio.file.Files;
import java.nio.file.Path;
import java.util.ArrayList;
import java.util.Comparator;
import java.util.List;
import java.util.Set;
import java.util.TreeMap;
import java.util.TreeSet;
import java.util.Map;
import java.util.regex.Matcher;
import java.util.regex.Pattern;
import java.util.stream.Collectors;
import java.util.stream.Stream;

/** What README.md says, tried by doing it. */
public final class ReadmeTest {
    private static final Check CHECK = new Check();

    private ReadmeTest() {
    }

    private static List<String> blocks(String page, String language) {
        List<String> found = new ArrayList<>();
        Matcher m = Pattern.compile("```" + language + "\n(.*?)```\n", Pattern.DOTALL).matcher(page);
        while (m.find()) {
            found.add(m.group(1));
        }
        return found;
    }

    private static List<Path> under(Path folder) throws IOException {
        try (Stream<Path> all = Files.walk(folder)) {
            return all.sorted().toList();
        }
    }

    /** The commands are run in a copy, so that they leave nothing here. */
    private static void copySources(Path to) throws IOException {
        for (Path from : under(Path.of("src"))) {
            if (Files.isRegularFile(from)) {
                Files.createDirectories(to.resolve(from).getParent());
                Files.copy(from, to.resolve(from));
            }
        }
    }

    private static void remove(Path folder) throws IOException {
        for (Path path : under(folder).stream().sorted(Comparator.reverseOrder()).toList()) {
            Files.delete(path);
        }
    }

    private static String printedBy(String commands, Path folder) throws IOException, InterruptedException {
        Process process = new ProcessBuilder("bash", "-e", "-c", commands).directory(folder.toFile())
                .redirectErrorStream(true).start();
        String printed = new String(process.getInputStream().readAllBytes());
        CHECK.same("the exit code of\n" + commands + printed, process.waitFor(), 0);
        return printed;
    }

    private static void commands(String page) throws IOException, InterruptedException {
        List<String> commands = blocks(page, "sh");
        CHECK.same("one example", blocks(page, "java").size(), 1);
        CHECK.same("one thing that is printed", blocks(page, "text").size(), 1);
        CHECK.same("commands for the example and for the tests", commands.size(), 2);
        Path folder = Files.createTempDirectory("readme");
        copySources(folder);
        Files.createDirectory(folder.resolve("out"));
        Files.writeString(folder.resolve("out/Example.java"), blocks(page, "java").get(0));
        CHECK.same("what the example prints", printedBy(commands.get(0), folder), blocks(page, "text").get(0));
        String tests = printedBy(commands.get(1), folder);
        CHECK.same("the tests tell that none is wrong: " + tests, tests.split(", 0 wrong", -1).length, 3);
        remove(folder);
    }

    /** Of each call in the table, with its name ahead of the sign (, the last column. */
    private static Map<String, String> toldRefusals(String page) {
        Map<String, String> told = new TreeMap<>();
        Matcher m = Pattern.compile("^\\| `(\\w+\\([\\w, ]*\\))` \\|.*\\| (\\S+) \\|$", Pattern.MULTILINE).matcher(page);
        while (m.find()) {
            told.put(m.group(1), m.group(2));
        }
        return told;
    }

    private static int parameters(String call) {
        return call.endsWith("()") ? 0 : call.split(",").length;
    }

    /** What a new object answers if there is no such thing. */
    private static String refusal(Method m) throws IllegalAccessException {
        Object[] with = new Object[m.getParameterCount()];
        for (int i = 0; i < with.length; i++) {
            with[i] = m.getParameterTypes()[i] == boolean.class ? (Object) true : (Object) (-1);
        }
        try {
            String answer = m.invoke(new RainLoans(), with).toString();
            return answer.equals("" + RainLoans.NONE) ? "NONE" : answer;
        } catch (InvocationTargetException e) {
            return e.getCause().getClass().getSimpleName();
        }
    }

    private static void calls(String page) throws IllegalAccessException {
        Map<String, String> told = toldRefusals(page);
        int face = 0;
        for (Method m : RainLoans.class.getDeclaredMethods()) {
            if (!Modifier.isPublic(m.getModifiers())) {
                continue;
            }
            face++;
            String call = told.keySet().stream().filter(c -> c.startsWith(m.getName() + "(")).findFirst().orElse("");
            CHECK.same(m.getName() + " is told with all that it takes", parameters(call), m.getParameterCount());
            String refused = told.getOrDefault(call, "not told");
            // feed, custom and ruined refuse nothing: the last column is a dash, and 0 is answered here.
            CHECK.same(m.getName() + " for what there is not", refusal(m), refused.equals("-") ? "0" : refused);
        }
        CHECK.same("all calls and no others are told", told.size(), face);
    }

    private static void tests(String page) throws IOException {
        Set<String> told = new TreeSet<>();
        Matcher m = Pattern.compile("^\\| (\\w+Test) \\|", Pattern.MULTILINE).matcher(page);
        while (m.find()) {
            told.add(m.group(1));
        }
        Set<String> there = under(Path.of("src/test/java")).stream().map(p -> p.getFileName().toString())
                .filter(n -> n.endsWith("Test.java")).map(n -> n.substring(0, n.length() - 5))
                .collect(Collectors.toCollection(TreeSet::new));
        CHECK.same("the tests that are told are those that are there", told.toString(), there.toString());
    }

    private static void classes(String page) {
        for (Class<?> c : RainLoans.class.getDeclaredClasses()) {
            CHECK.same(c.getSimpleName() + " is told", page.contains("`" + c.getSimpleName() + "`"), true);
        }
    }

    public static void main(String[] args) throws Exception {
        String page = Files.readString(Path.of("README.md"));
        commands(page);
        calls(page);
        tests(page);
        classes(page);
        CHECK.end();
    }
}
