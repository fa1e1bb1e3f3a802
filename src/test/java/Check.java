import java.util.ArrayList;
import java.util.List;

/** Counts answers that are not the ones that are due, and puts texts on an object's tape. */
final class Check {
    private static int wrong = 0;
    private static int asked = 0;
    private static int askedAhead = 0;
    private static String named = "";
    private static final List<String[]> SENTENCES = new ArrayList<>();

    private Check() {
    }

    /** What is checked from here on is for this sentence of the document; Sentences looks whether it stands there. */
    static void sentence(String heading, String words) {
        endSentence();
        SENTENCES.add(new String[] {heading, words});
        named = heading + ", \"" + words + "\": ";
        askedAhead = asked;
    }

    private static void endSentence() {
        if (!named.isEmpty() && asked == askedAhead) {
            wrong++;
            System.out.println(named + "has no check");
        }
        named = "";
    }

    /** Heading and words of those that were named so far. */
    static List<String[]> sentences() {
        endSentence();
        return SENTENCES;
    }

    static void same(String what, long got, long due) {
        asked++;
        if (got != due) {
            wrong++;
            System.out.println(named + what + " answered " + got + ", due is " + due);
        }
    }

    static void sameText(String what, String got, String due) {
        asked++;
        if (!got.equals(due)) {
            wrong++;
            System.out.println(named + what + " answered\n    " + got + ", due is\n    " + due);
        }
    }

    static void yes(String what, boolean got) {
        same(what, got ? 1 : 0, 1);
    }

    static void no(String what, boolean got) {
        same(what, got ? 1 : 0, 0);
    }

    static void end(String name) {
        endSentence();
        System.out.println(name + ": " + asked + " answers, " + wrong + " wrong");
        if (wrong != 0) System.exit(1);
    }

    static void put(BlackRoad x, String text) {
        x.end(0);
        for (int i = 0; i < text.length(); i += 20) {
            x.feed(four(text, i), four(text, i + 4), four(text, i + 8), four(text, i + 12), four(text, i + 16));
        }
        same("end of " + text, x.end(text.length()), text.length());
    }

    private static int four(String text, int place) {
        int four = 0;
        for (int i = place; i < place + 4; i++) four = four << 8 | (i < text.length() ? text.charAt(i) : 0);
        return four;
    }

    static int hours(BlackRoad x, String text) {
        put(x, text);
        return x.hours();
    }

    static boolean rate(BlackRoad x, String text) {
        put(x, text);
        return x.rate();
    }

    /** The text is refused with this fault at this place, and the tape is empty behind it. */
    static void badHours(BlackRoad x, String text, int fault, int place) {
        same("hours " + text, hours(x, text), -1);
        same("fault of " + text, x.fault(0), fault);
        same("place in " + text, x.fault(1), place);
        same("tape behind " + text, x.about(10), 0);
    }

    static void badRate(BlackRoad x, String text, int fault, int place) {
        no("rate " + text, rate(x, text));
        same("fault of " + text, x.fault(0), fault);
        same("place in " + text, x.fault(1), place);
        same("tape behind " + text, x.about(10), 0);
    }

    /** What THE RATE of a text tells with 7, 90, 1 and 3. */
    static void tells(BlackRoad x, String text, int due) {
        yes("rate " + text, rate(x, text));
        same("fault of " + text, x.fault(0), 0);
        same("place in " + text, x.fault(1), -1);
        same(text, x.tells(7, 90, 1, 3), due);
    }
}
