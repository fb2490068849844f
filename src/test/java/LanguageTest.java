import java.io.IOException;
import java.nio.file.Files;
import java.nio.file.Path;
import java.util.regex.Matcher;
import java.util.regex.Pattern;

/** What LANGUAGE.md forbids and a text search can find. */
final class LanguageTest {
    private static final String[] FORBIDDEN = {"\\bthrow\\b", "\\bthrows\\b", "\\btry\\b", "\\bcatch\\b",
        "\\bsynchronized\\b", "\\bassert\\b", "->", "::", "\\bimport\\b", "\\bpackage\\b", "\\binstanceof\\b",
        "\\bnull\\b", "\\bprotected\\b", "\\bvar\\b", "\\bObject\\b", "\\bString\\b", "\\bRandom\\b", "Exact\\b",
        "\\bThread\\b", "nanoTime", "currentTimeMillis", "\\bfor \\(;", "while \\(true", "\\bhashCode\\b", "@"};
    private static final String[] FACE = {"say", "wipe", "fault", "yard", "siding", "leads", "least", "ways", "first",
        "orders", "good", "mean", "need", "keep", "unlike", "play", "move", "back", "rest", "next", "moves", "stand",
        "thumb", "sorts", "draw", "image", "restore", "told"};

    private LanguageTest() {
    }

    static void run(Path source) throws IOException {
        String text = Files.readString(source);
        String code = text.replaceAll("(?s)/\\*.*?\\*/", "").replaceAll("//[^\n]*", "");
        for (String word : FORBIDDEN) {
            Check.due("LANGUAGE.md: " + word, Pattern.compile(word).matcher(code).find() ? 1 : 0, 0);
        }
        for (String name : FACE) {
            String declared = "(?m)^ +(?!return|else)[\\w\\[\\] ]*\\b(int|long|void|boolean) " + name + "\\(";
            Matcher found = Pattern.compile(declared).matcher(code);
            int times = 0;
            while (found.find()) {
                times++;
            }
            Check.due("LANGUAGE.md: methods with the name " + name, times, 1);
        }
        Matcher classes = Pattern.compile("\\bclass \\w+").matcher(code);
        int count = 0;
        while (classes.find()) {
            count++;
        }
        Check.due("LANGUAGE.md: at most twelve classes", count <= 12 ? 1 : 0, 1);
        Check.due("LANGUAGE.md: signs 1 to 127", code.chars().allMatch(one -> one > 0 && one < 128) ? 1 : 0, 1);
        methodsAreShort(code);
        nothingIsMadeByCalls(code);
    }

    /** Rooms are small: what an object needs is made with it. */
    private static void nothingIsMadeByCalls(String code) {
        int line = 0;
        for (String one : code.split("\n")) {
            line++;
            if (one.matches(".*\\bnew\\b.*")) {
                boolean field = one.matches(" {4,8}(private )?final [\\w\\[\\]]+ \\w+ = new [^;]+;");
                Check.due("LANGUAGE.md: made by no call, line " + line, field ? 1 : 0, 1);
            }
        }
    }

    private static void methodsAreShort(String code) {
        int line = 0;
        int begun = 0;
        for (String one : code.split("\n")) {
            line++;
            if (one.matches(" {4,8}[\\w\\[\\] ]+\\(.*\\) \\{")) {
                begun = line;
            }
            if (one.matches(" {4,8}\\}") && begun > 0) {
                Check.due("LANGUAGE.md: a short method at line " + begun, line - begun <= 60 ? 1 : 0, 1);
                begun = 0;
            }
        }
    }
}
