import java.lang.reflect.Constructor;
import java.lang.reflect.Field;
import java.lang.reflect.Method;
import java.lang.reflect.Modifier;
import java.util.ArrayList;
import java.util.Arrays;
import java.util.List;
import java.util.TreeSet;

/** The face is the document's to the letter, and no other member can be seen (LANGUAGE.md, 1, 2, 5 and 11). */
public final class FaceTest {
    private static final String[] FACE = {
        "int section(int, int)", "boolean even(int, int, int, int, int)", "int levels()", "int level(int)",
        "int layer(int, int)", "int job(int, int)", "int plant(int, int, int, int)", "boolean trucks(int, int)",
        "boolean heat(int, int, int, int, int)", "boolean weather(int, int, int, int)", "int roller(int, int)",
        "boolean sort(int, int, int, int)", "int feed(int, int, int, int, int)", "int end(int)", "int hours()",
        "boolean rate()", "int fault(int)", "int world(int, int, int)", "int run(int, int, int)", "int pace()",
        "int fewest(int)", "int load(int, int, int, int)", "int tonne(int, int, int)", "int laid(int, int, int, int)",
        "int mean(int, int, int, int)", "int tells(int, int, int, int)", "long pay(int, int, int, int)",
        "int core(int, int, int)", "int about(int)"};

    private FaceTest() {
    }

    public static void main(String[] args) {
        TreeSet<String> names = new TreeSet<>();
        TreeSet<String> seen = new TreeSet<>();
        for (Method method : BlackRoad.class.getDeclaredMethods()) {
            if (!Modifier.isPublic(method.getModifiers())) continue;
            names.add(method.getName());
            List<String> types = new ArrayList<>();
            for (Class<?> type : method.getParameterTypes()) types.add(type.getSimpleName());
            seen.add(method.getReturnType().getSimpleName() + " " + method.getName() + "(" + String.join(", ", types) + ")");
        }
        Check.yes("the face " + seen, seen.equals(new TreeSet<>(Arrays.asList(FACE))));
        Check.yes("final", Modifier.isFinal(BlackRoad.class.getModifiers()));
        Constructor<?>[] makers = BlackRoad.class.getDeclaredConstructors();
        Check.same("constructors", makers.length, 1);
        Check.same("its parameters", makers[0].getParameterCount(), 0);
        for (Method method : BlackRoad.class.getDeclaredMethods()) {
            if (Modifier.isPublic(method.getModifiers()) || method.isSynthetic()) continue;
            Check.yes("private " + method, Modifier.isPrivate(method.getModifiers()));
            Check.no("a public name " + method, names.contains(method.getName()));
        }
        for (Field field : BlackRoad.class.getDeclaredFields()) {
            boolean isFace = field.getName().equals("NONE");
            Check.same("seen " + field, field.getModifiers() & (Modifier.PUBLIC | Modifier.PRIVATE),
                    isFace ? Modifier.PUBLIC : Modifier.PRIVATE);
        }
        Class<?>[] inside = BlackRoad.class.getDeclaredClasses();
        Check.yes("classes", inside.length <= 12);
        lookInto(BlackRoad.class);
        for (Class<?> one : inside) {
            Check.yes("static " + one, Modifier.isStatic(one.getModifiers()));
            Check.no("public " + one, Modifier.isPublic(one.getModifiers()));
            Check.same("classes in " + one, one.getDeclaredClasses().length, 0);
            for (Method method : one.getDeclaredMethods()) {
                Check.no("a public name " + method, names.contains(method.getName()));
            }
            lookInto(one);
        }
        Check.end("FaceTest");
    }

    private static void lookInto(Class<?> one) {
        int fields = 0;
        for (Field field : one.getDeclaredFields()) {
            if (Modifier.isStatic(field.getModifiers())) {
                Check.yes("final " + field, Modifier.isFinal(field.getModifiers()));
                Check.yes("a number " + field, field.getType() == int.class || field.getType() == long.class);
            } else {
                fields++;
            }
        }
        Check.yes("fields of " + one + " " + fields, fields <= 20);
        for (Method method : one.getDeclaredMethods()) {
            Check.yes("parameters of " + method, method.getParameterCount() <= 7);
        }
    }
}
