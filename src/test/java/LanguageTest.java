import java.io.IOException;
import java.nio.file.Files;
import java.nio.file.Path;
import java.util.List;
import java.util.regex.Matcher;
import java.util.regex.Pattern;

/** Rules of LANGUAGE.md that a look at the program's text can tell. It runs in the project's folder. */
public final class LanguageTest {
    private static final Check CHECK = new Check("LanguageTest");
    private static final String[] BARRED = {"->", "::", "\\btry\\b", "\\bcatch\\b", "\\bfinally\\b", "\\bsynchronized\\b",
        "\\bassert\\b", "\\bimport\\b", "\\bpackage\\b", "\\bvar\\b", "\\bdouble\\b", "\\bfloat\\b", "\\bthrow\\b",
        "\\bSystem\\b", "\\bwhile\\b", "Exact\\b", "\\bprotected\\b", "\\binstanceof\\b", "\\bObject\\b"};

    private static String withoutComments(String text) {
        return text.replaceAll("(?s)/\\*.*?\\*/", "").replaceAll("//[^\n]*", "");
    }

    private static void barred(String code) {
        for (String pattern : BARRED) {
            Matcher m = Pattern.compile(pattern).matcher(code);
            CHECK.holds("no " + pattern, !m.find());
        }
        Matcher library = Pattern.compile("\\b(Math|Integer|Long|Arrays)\\.(\\w+)").matcher(code);
        while (library.find()) {
            CHECK.holds(library.group(), List.of("bitCount", "min", "max").contains(library.group(2)));
        }
    }

    /** A loop's end is seen from its own line: every for compares a counter. */
    private static void loops(String code) {
        Matcher m = Pattern.compile("for \\(int (\\w+) = [^;]+; \\1 <=? [^;]+; \\1\\+\\+\\)").matcher(code);
        int bounded = 0;
        while (m.find()) {
            bounded++;
        }
        Matcher all = Pattern.compile("\\bfor\\b").matcher(code);
        int loops = 0;
        while (all.find()) {
            loops++;
        }
        CHECK.due("loops with a counter", bounded, loops);
    }

    private static void arrays(String code) {
        Matcher m = Pattern.compile("\\bnew \\w+\\[[^\\]]*\\]").matcher(code);
        while (m.find()) {
            int from = code.lastIndexOf('\n', m.start()) + 1;
            CHECK.holds(m.group() + " is made with its object", code.substring(from, m.start()).contains("final"));
        }
    }

    private static void lengths(List<String> lines) {
        int began = -1;
        for (int i = 0; i < lines.size(); i++) {
            String line = lines.get(i);
            if (line.matches(" {4,8}[a-zA-Z].*\\) \\{") && !line.contains("class ")) {
                began = i;
            }
            if (began >= 0 && line.matches(" {4,8}\\}")) {
                CHECK.holds("some sixty lines: " + lines.get(began), i - began <= 60);
                began = -1;
            }
        }
    }

    public static void main(String[] args) throws IOException {
        Path file = Path.of("src/main/java/FairSeats.java");
        String code = withoutComments(Files.readString(file));
        barred(code);
        loops(code);
        arrays(code);
        lengths(Files.readAllLines(file));
        CHECK.end();
    }
}
