import java.io.IOException;
import java.lang.reflect.Constructor;
import java.lang.reflect.Field;
import java.lang.reflect.Method;
import java.lang.reflect.Modifier;
import java.nio.charset.StandardCharsets;
import java.nio.file.Files;
import java.nio.file.Path;
import java.util.ArrayList;
import java.util.Arrays;
import java.util.List;
import java.util.TreeSet;
import java.util.regex.Matcher;
import java.util.regex.Pattern;

/** The face is the document's to the letter, and no other member can be seen (LANGUAGE.md, 1, 2, 5 and 11). */
public final class FaceTest {
    private static final String[] FACE = {
        "int section(int, int)", "boolean even(int, int, int, int, int)", "int levels()", "int level(int)",
        "int layer(int, int)", "int job(int, int)", "int plant(int, int, int, int)", "boolean trucks(int, int)",
        "boolean heat(int, int, int, int, int)", "boolean weather(int, int, int, int)", "int roller(int, int)",
        "boolean sort(int, int, int, int)", "int feed(int, int, int, int, int)", "int end(int)", "int hours()",
        "boolean rate()", "int fault(int)", "int world(int, int, int)", "int run(int, int, int)", "int pace()",
        "int fewest(int)", "int load(int, int, int, int)", "int tonne(int, int, int)", "int laid(int, int, int, int)",
        "int mean(int, int, int, int)", "int tells(int, int, int, int)", "long pay(int, int, int, int)",
        "int core(int, int, int)", "int about(int)"};

    private FaceTest() {
    }

    public static void main(String[] args) throws IOException {
        asTheDocumentHasIt();
        TreeSet<String> names = new TreeSet<>();
        TreeSet<String> seen = new TreeSet<>();
        for (Method method : BlackRoad.class.getDeclaredMethods()) {
            if (!Modifier.isPublic(method.getModifiers())) continue;
            names.add(method.getName());
            List<String> types = new ArrayList<>();
            for (Class<?> type : method.getParameterTypes()) types.add(type.getSimpleName());
            seen.add(method.getReturnType().getSimpleName() + " " + method.getName() + "(" + String.join(", ", types) + ")");
        }
        Check.yes("the face " + seen, seen.equals(new TreeSet<>(Arrays.asList(FACE))));
        Check.yes("final", Modifier.isFinal(BlackRoad.class.getModifiers()));
        Constructor<?>[] makers = BlackRoad.class.getDeclaredConstructors();
        Check.same("constructors", makers.length, 1);
        Check.same("its parameters", makers[0].getParameterCount(), 0);
        for (Method method : BlackRoad.class.getDeclaredMethods()) {
            if (Modifier.isPublic(method.getModifiers()) || method.isSynthetic()) continue;
            Check.yes("private " + method, Modifier.isPrivate(method.getModifiers()));
            Check.no("a public name " + method, names.contains(method.getName()));
        }
        for (Field field : BlackRoad.class.getDeclaredFields()) {
            boolean isFace = field.getName().equals("NONE");
            Check.same("seen " + field, field.getModifiers() & (Modifier.PUBLIC | Modifier.PRIVATE),
                    isFace ? Modifier.PUBLIC : Modifier.PRIVATE);
        }
        Class<?>[] inside = BlackRoad.class.getDeclaredClasses();
        Check.yes("classes", inside.length <= 12);
        lookInto(BlackRoad.class);
        for (Class<?> one : inside) {
            Check.yes("static " + one, Modifier.isStatic(one.getModifiers()));
            Check.no("public " + one, Modifier.isPublic(one.getModifiers()));
            Check.same("classes in " + one, one.getDeclaredClasses().length, 0);
            for (Method method : one.getDeclaredMethods()) {
                Check.no("a public name " + method, names.contains(method.getName()));
            }
            lookInto(one);
        }
        Check.end("FaceTest");
    }

    private static String read(String path) throws IOException {
        return new String(Files.readAllBytes(Path.of(path)), StandardCharsets.ISO_8859_1);
    }

    /** Each line of the document's code block stands in the program, with its arguments' names, and so each promise's. */
    private static void asTheDocumentHasIt() throws IOException {
        String document = "../shared/DOC.md";
        if (!Files.exists(Path.of(document))) {
            System.out.println("no " + document + ": its code block isn't looked at");
            return;
        }
        String text = read(document);
        Matcher block = Pattern.compile("(?s)```java\\n(.*?)```").matcher(text);
        Check.yes("the document has a code block", block.find());
        String program = read("src/main/java/BlackRoad.java");
        TreeSet<String> calls = new TreeSet<>();
        for (String line : block.group(1).split("\n")) {
            if (line.isBlank() || line.equals("}")) continue;
            String begins = line.replaceAll("\\);$", ") {");
            Check.yes("the program has: " + line, program.contains("\n" + begins + "\n"));
            if (begins.endsWith(") {")) calls.add(line.replaceAll("^ +public |;$", ""));
        }
        Matcher promise = Pattern.compile("(?m)^## Promise \\d+: (.*)\\n\\n`([^`]*)`").matcher(text);
        TreeSet<String> promised = new TreeSet<>();
        while (promise.find()) promised.add(promise.group(2));
        Check.same("lines that are calls", calls.size(), FACE.length + 1);
        Check.yes("each call has a promise " + promised, promised.equals(calls));
    }

    private static void lookInto(Class<?> one) {
        int fields = 0;
        for (Field field : one.getDeclaredFields()) {
            if (Modifier.isStatic(field.getModifiers())) {
                Check.yes("final " + field, Modifier.isFinal(field.getModifiers()));
                Check.yes("a number " + field, field.getType() == int.class || field.getType() == long.class);
            } else {
                fields++;
            }
        }
        Check.yes("fields of " + one + " " + fields, fields <= 20);
        for (Method method : one.getDeclaredMethods()) {
            Check.yes("parameters of " + method, method.getParameterCount() <= 7);
        }
    }
}
