import java.io.IOException;
import java.nio.charset.StandardCharsets;
import java.nio.file.Files;
import java.nio.file.Path;
import java.util.regex.Matcher;
import java.util.regex.Pattern;

/** What of LANGUAGE.md can be seen in the text of the program. */
public final class RulesTest {
    private static final String[] NEVER = {
        "\\b(throw|throws|try|catch|finally|synchronized|assert|volatile|native|record|double|float)\\b", "->", "::",
        "\\bpackage\\b", "\\bprotected\\b", "\\b(equals|hashCode|toString)\\b", "\\bstatic\\s*\\{",
        "\\bObject\\b", "\\bclass\\b[^{]*\\bclass\\b", "Exact\\s*\\(", "\\[\\]\\s*\\[\\]", "@", "\\bgoto\\b",
        "\\b(Random|Thread|Runtime|Scanner|File|Class|Character|Long|Double|Boolean)\\b",
        "\"\\s*\\+|\\+\\s*\"", "\\.\\.\\."};
    private static final Pattern METHOD =
            Pattern.compile("^ {4}(?: {4})?(?:public |private |static |final )*[\\w\\[\\]]+ ?\\w*\\([^;=]*\\) \\{$");

    private RulesTest() {
    }

    public static void main(String[] args) throws IOException {
        String text = new String(Files.readAllBytes(Path.of("src/main/java/BlackRoad.java")), StandardCharsets.ISO_8859_1);
        for (int i = 0; i < text.length(); i++) {
            char sign = text.charAt(i);
            if (sign != '\n' && (sign < 32 || sign > 126)) Check.same("sign at " + i, sign, ' ');
        }
        String bare = text.replaceAll("(?s)/\\*.*?\\*/", "").replaceAll("//[^\n]*", "");
        for (String never : NEVER) {
            Matcher m = Pattern.compile(never).matcher(bare);
            Check.no(never + " in the program", m.find());
        }
        Matcher imports = Pattern.compile("(?m)^import (.*);$").matcher(bare);
        while (imports.find()) Check.yes(imports.group(1), imports.group(1).equals("java.util.Arrays"));
        Matcher library = Pattern.compile("\\b(Arrays|Math|System|Integer)\\.(\\w+)").matcher(bare);
        while (library.find()) {
            String used = library.group(2);
            Check.yes(library.group(), used.matches("fill|copyOf|min|max|abs|arraycopy"));
        }
        Matcher made = Pattern.compile("\\bnew (\\w+)").matcher(bare);
        while (made.find()) {
            Check.yes(made.group(), made.group(1).matches("int|Road|Plants|Warmth|Tape|Hours|Rate|Loads|Cooling|Haulage|Paving|Rolling"));
        }
        shortMethods(text.split("\n"));
        indexesOnlyBehindATest(bare);
        ProgramTree.check("src/main/java/BlackRoad.java");
        Check.end("RulesTest");
    }

    private static void shortMethods(String[] lines) {
        int methods = 0;
        for (int i = 0; i < lines.length; i++) {
            if (!METHOD.matcher(lines[i]).matches()) continue;
            methods++;
            String close = lines[i].replaceAll("\\S.*", "") + "}";
            int end = i;
            while (end < lines.length && !lines[end].equals(close)) end++;
            Check.yes("at most sixty lines: " + lines[i].trim(), end - i <= 60);
        }
        Check.yes("methods are found: " + methods, methods > 100);
    }

    /** Rows are read and written in at() and set() alone, which look at the index first. */
    private static void indexesOnlyBehindATest(String bare) {
        Matcher m = Pattern.compile("(?m)^.*\\w\\[[^\\]]+\\].*$").matcher(bare);
        int places = 0;
        while (m.find()) {
            String line = m.group().trim();
            if (line.contains("new int[")) continue;
            places++;
            Check.yes(line, line.equals("return place >= 0 && place < row.length ? row[place] : 0;")
                    || line.equals("row[place] = value;"));
        }
        Check.same("places with an index", places, 2);
    }
}
