import java.io.IOException;
import java.nio.charset.StandardCharsets;
import java.nio.file.Files;
import java.nio.file.Path;
import java.util.ArrayList;
import java.util.List;
import java.util.Map;
import java.util.TreeMap;
import java.util.regex.Matcher;
import java.util.regex.Pattern;

/**
 * Looks whether the sentences that tests are named by stand in the document, and whether each of its sentences has
 * a test: one that was run under its name, or one in PromiseTest or ReadmeTest with a comment that has its heading and
 * its words. FaceTest is for the code block, and what is not promised has no test.
 */
final class Sentences {
    private static final Path DOCUMENT = Path.of("../shared/DOC.md");
    private static final String[] BESIDE = {"src/test/java/PromiseTest.java", "src/test/java/ReadmeTest.java"};
    private static final Pattern NAMED =
            Pattern.compile("// (What it is|Terms [IV]+|Promise \\d+|The constants), \"(.*)\"");
    private static final String[] PARTS = {"Terms I", "Terms II", "Terms III", "Terms IV", "Terms V"};

    private Sentences() {
    }

    static void check() throws IOException {
        if (!Files.exists(DOCUMENT)) {
            System.out.println("no " + DOCUMENT + ": what the tests are named by isn't looked at");
            return;
        }
        Map<String, String> document = parts(read(DOCUMENT));
        Map<String, boolean[]> tested = new TreeMap<>();
        document.forEach((heading, text) -> tested.put(heading, new boolean[text.length()]));
        List<String[]> names = new ArrayList<>(Check.sentences());
        names.addAll(comments());
        for (String[] name : names) mark(name[0], plain(name[1]), document, tested);
        document.forEach((heading, text) -> untested(heading, text, tested.get(heading)));
        Check.same("headings", document.size(), 2 + PARTS.length + 30);
    }

    private static String read(Path path) throws IOException {
        return new String(Files.readAllBytes(path), StandardCharsets.ISO_8859_1);
    }

    /** Blanks are told by none, and none ahead of a text or behind it. */
    private static String plain(String text) {
        return text.replace("```text", " ").replace("```", " ").replaceAll("\\s+", " ").trim();
    }

    private static String between(String text, String from, String to) {
        int place = text.indexOf(from) + from.length();
        return text.substring(place, Math.max(place, text.indexOf(to)));
    }

    private static Map<String, String> parts(String document) {
        Map<String, String> parts = new TreeMap<>();
        String ahead = between(document, "## What it is", "## The public face");
        parts.put("What it is", plain(ahead.replace("==== I.", " ")));
        int terms = document.indexOf("## Terms") + "## Terms".length();
        int constants = document.indexOf("The constants: ");
        String[] told = document.substring(terms, constants).split("==== [IV]+\\.");
        for (int i = 0; i < PARTS.length && i < told.length; i++) parts.put(PARTS[i], plain(told[i]));
        parts.put("The constants", plain(document.substring(constants, document.indexOf("## Promise 1:"))));
        Matcher promise = Pattern.compile("## (Promise \\d+): .*\\s+`[^`]*`: (.*)").matcher(document);
        while (promise.find()) parts.put(promise.group(1), plain(promise.group(2)));
        return parts;
    }

    /** The tests in PromiseTest and ReadmeTest say beside them which sentences they are for. */
    private static List<String[]> comments() throws IOException {
        List<String[]> names = new ArrayList<>();
        for (String beside : BESIDE) {
            String text = read(Path.of(beside)).replaceAll("\\n\\s*// \\.\\. ", " ");
            Matcher name = NAMED.matcher(text);
            while (name.find()) names.add(new String[] {name.group(1), name.group(2)});
        }
        return names;
    }

    private static void mark(String heading, String words, Map<String, String> document, Map<String, boolean[]> tested) {
        String text = document.getOrDefault(heading, "");
        int place = text.indexOf(words);
        Check.yes(heading + " has \"" + words + "\"", place >= 0);
        while (place >= 0) {
            for (int i = place; i < place + words.length(); i++) tested.get(heading)[i] = true;
            place = text.indexOf(words, place + 1);
        }
    }

    private static void untested(String heading, String text, boolean[] tested) {
        StringBuilder left = new StringBuilder();
        for (int i = 0; i < text.length(); i++) left.append(tested[i] ? (char) 1 : text.charAt(i));
        for (String words : left.toString().split("\1+")) {
            Check.yes(heading + ", \"" + words.trim() + "\" has a test", words.isBlank());
        }
    }
}
