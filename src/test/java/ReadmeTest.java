import java.io.ByteArrayOutputStream;
import java.io.IOException;
import java.io.PrintStream;
import java.lang.reflect.Method;
import java.net.URL;
import java.net.URLClassLoader;
import java.nio.charset.StandardCharsets;
import java.nio.file.Files;
import java.nio.file.Path;
import java.util.ArrayList;
import java.util.Arrays;
import java.util.Comparator;
import java.util.List;
import java.util.TreeSet;
import java.util.regex.Matcher;
import java.util.regex.Pattern;
import java.util.stream.Stream;
import javax.tools.JavaCompiler;
import javax.tools.ToolProvider;

/** README.md's example compiles with the class and prints what README.md says; its ranges are those that are taken. */
public final class ReadmeTest {
    private static final Pattern EXAMPLE = Pattern.compile("(?s)```java\\n(.*?)```");
    private static final Pattern SHOWN = Pattern.compile("println\\(.*\\); // (-?\\w+)(:.*)?$");
    private static final Pattern CALL = Pattern.compile("(?m)^\\| `(\\w+)\\((.*?)\\)` \\| .+ \\|$");
    private static final String[] GOOD = {
        "section 10 0", "layer 20 0", "even 70 2 10 2 3", "level 0", "job 0 0", "plant 0 5 100 5", "trucks 6 20",
        "heat 160 4 110 80 70", "weather 15 20 60 40", "roller 0 50", "sort 0 150 0 2", "end 0", "fault 0", "world 0 0 0",
        "run 0 1 0", "fewest 1", "load 0 1 0 0", "tonne 0 1 0", "laid 0 1 0 0", "mean 0 1 0 0", "tells 0 0 0 0",
        "pay 0 1 1 0", "core 1 0 0", "about 0", "levels", "hours", "rate", "pace", "feed 0 0 0 0 0"};

    private ReadmeTest() {
    }

    public static void main(String[] args) throws Exception {
        String readme = read(Path.of("README.md"));
        example(readme);
        calls(readme);
        tests(readme);
        Check.end("ReadmeTest");
    }

    private static String read(Path path) throws IOException {
        return new String(Files.readAllBytes(path), StandardCharsets.ISO_8859_1);
    }

    // What it is, "A road laid hot: an old road milled and laid to even levels for the least cost, what each strip then
    // .. weighs; plants with silos that make kinds of mix, trucks sent where the next load is made, worlds of traffic,
    // .. shut plants, closures and rain told in a text; a paver that lays strip on strip, the pace that stops least in the
    // .. worst world, the fewest trucks; loads that grow cold on the way and are refused; layers that cool in shells from
    // .. above and below; rollers of three sorts that must pass in order while it is neither too hot nor too cold; joints;
    // .. cores drawn by lots and pay by a text; each tonne led to its load."
    private static void example(String readme) throws Exception {
        Matcher block = EXAMPLE.matcher(readme);
        Check.yes("README.md has an example", block.find());
        String text = block.group(1);
        Check.no("README.md has one example alone", block.find());
        List<String> due = new ArrayList<>();
        int prints = 0;
        for (String line : text.split("\n")) {
            if (line.contains("println(")) prints++;
            Matcher shown = SHOWN.matcher(line);
            if (shown.find()) due.add(shown.group(1));
        }
        Check.same("lines of the example that say what they print", due.size(), prints);
        Check.yes("the example prints something", prints > 0);
        Path room = Files.createTempDirectory("readme");
        try {
            Check.sameText("what README.md's example prints", runs(text, room), String.join("\n", due) + "\n");
        } finally {
            remove(room);
        }
    }

    /** Compiles the example with the class, and only with it, and answers what its main method prints. */
    private static String runs(String text, Path room) throws Exception {
        Path source = room.resolve("Example.java");
        Files.write(source, text.getBytes(StandardCharsets.ISO_8859_1));
        JavaCompiler compiler = ToolProvider.getSystemJavaCompiler();
        int refused = compiler.run(null, System.out, System.out, "-Xlint:all", "-cp", room.toString(), "-d", room.toString(),
                "src/main/java/BlackRoad.java", source.toString());
        Check.same("README.md's example compiles with the class", refused, 0);
        if (refused != 0) return "";
        ByteArrayOutputStream printed = new ByteArrayOutputStream();
        PrintStream usual = System.out;
        try (URLClassLoader loader = new URLClassLoader(new URL[] {room.toUri().toURL()}, ClassLoader.getPlatformClassLoader())) {
            System.setOut(new PrintStream(printed, true));
            loader.loadClass("Example").getMethod("main", String[].class).invoke(null, (Object) new String[0]);
        } finally {
            System.setOut(usual);
        }
        return printed.toString().replace(System.lineSeparator(), "\n");
    }

    private static void remove(Path room) throws IOException {
        try (Stream<Path> all = Files.walk(room)) {
            for (Path path : all.sorted(Comparator.reverseOrder()).toArray(Path[]::new)) Files.delete(path);
        }
    }

    /** Each call stands in a table once; at the ends of a range it is answered, one further it is refused. */
    private static void calls(String readme) throws Exception {
        List<String> told = new ArrayList<>();
        Matcher call = CALL.matcher(readme);
        while (call.find()) {
            told.add(call.group(1));
            ranges(call.group(1), call.group(2).isEmpty() ? new String[0] : call.group(2).split(", "));
        }
        TreeSet<String> face = new TreeSet<>();
        for (Method method : BlackRoad.class.getMethods()) {
            if (method.getDeclaringClass() == BlackRoad.class) face.add(method.getName());
        }
        Check.same("calls in README.md", told.size(), face.size());
        Check.yes("each call stands in README.md: " + told, face.equals(new TreeSet<>(told)));
    }

    private static void ranges(String name, String[] arguments) throws Exception {
        int[] good = good(name);
        Check.same("arguments of " + name, arguments.length, good.length);
        for (int i = 0; i < arguments.length && i < good.length; i++) {
            String[] words = arguments[i].split(" ");
            if (words.length == 1) {
                takes(name, good, i, Integer.MIN_VALUE, true);
                takes(name, good, i, Integer.MAX_VALUE, true);
                continue;
            }
            String[] ends = arguments[i].substring(words[0].length() + 1).split(" \\.\\. ");
            Check.same("ends of " + arguments[i], ends.length, 2);
            if (ends[0].matches("-?\\d+")) {
                takes(name, good, i, Integer.parseInt(ends[0]), true);
                takes(name, good, i, Integer.parseInt(ends[0]) - 1, false);
            }
            if (ends[1].matches("-?\\d+")) {
                takes(name, good, i, Integer.parseInt(ends[1]), true);
                takes(name, good, i, Integer.parseInt(ends[1]) + 1, false);
            } else {
                int most = most(name, ends[1]);
                takes(name, good, i, most, true);
                takes(name, good, i, most + 1, false);
            }
        }
    }

    private static int[] good(String name) {
        for (String row : GOOD) {
            String[] words = row.split(" ");
            if (words[0].equals(name)) {
                return Arrays.stream(words).skip(1).mapToInt(Integer::parseInt).toArray();
            }
        }
        Check.yes("a call: " + name, false);
        return new int[0];
    }

    /** What an end that hangs on the object is in the one that is asked. */
    private static int most(String name, String end) {
        BlackRoad x = ready();
        switch (end) {
            case "sections - 1": return x.about(0) - 1;
            case "jobs - 1": return x.about(8) - 1;
            case "jobs": return x.about(8);
            case "worlds - 1": return x.about(7) - 1;
            case "loads - 1": return x.run(0, 1, 2) - 1;
            case "tonnes - 1": return x.about(9) - 1;
            case "bytes of the tape": return x.about(10);
            case "n - 1": return good(name)[0] - 1;
            case "top": return good(name)[1];
            default:
                Check.yes("an end of a range: " + end, false);
                return 0;
        }
    }

    private static void takes(String name, int[] good, int place, int value, boolean due) throws Exception {
        int[] v = good.clone();
        v[place] = value;
        Object[] given = Arrays.stream(v).boxed().toArray();
        Class<?>[] types = new Class<?>[v.length];
        Arrays.fill(types, int.class);
        Object answer = BlackRoad.class.getMethod(name, types).invoke(ready(), given);
        long refusal = name.equals("mean") ? -1000 : name.equals("tells") ? -2000000000 : -1;
        boolean taken = answer instanceof Boolean ? (Boolean) answer : ((Number) answer).longValue() != refusal;
        Check.same("by README.md's range, " + name + Arrays.toString(v) + " is taken", taken ? 1 : 0, due ? 1 : 0);
    }

    /** One job of one load, done without a stop at each pace and passed by each sort; a text with a fault was read. */
    private static BlackRoad ready() {
        BlackRoad x = new BlackRoad();
        x.section(10, 0);
        x.layer(100, 0);
        x.plant(0, 10, 200, 1);
        for (int sort = 0; sort < 3; sort++) x.roller(sort, 50);
        Check.hours(x, "haul 0 1 from 0; world 0; world 1;");
        Check.rate(x, "t +");
        Check.put(x, "t");
        return x;
    }

    /** README.md names each test that .ci/run runs, and each file beside them. */
    private static void tests(String readme) throws IOException {
        int tests = 0;
        try (Stream<Path> all = Files.list(Path.of("src/test/java"))) {
            for (Path path : all.toArray(Path[]::new)) {
                String name = path.getFileName().toString().replace(".java", "");
                Check.yes("README.md names " + name, readme.contains("`" + name + "`"));
                tests += name.endsWith("Test") ? 1 : 0;
            }
        }
        Check.yes("tests are found", tests >= 7);
    }
}
