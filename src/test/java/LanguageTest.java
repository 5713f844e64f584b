import java.nio.file.Files;
import java.nio.file.Path;
import java.util.List;
import java.util.regex.Matcher;
import java.util.regex.Pattern;

/** Rules of LANGUAGE.md that can be seen in the source's own lines. */
public final class LanguageTest {
    private static final String[] NEVER = {
        "->", "::", "\\bthrow\\b", "\\btry\\b", "\\bcatch\\b", "\\bfinally\\b", "\\bsynchronized\\b", "\\bassert\\b",
        "\\b(Float|Double|Object|Random|Thread|System\\.(?!arraycopy))\\b", "Exact\\b", "\\bString\\b", "\\binstanceof\\b",
        "Math\\.(?!min|max|abs)", "Long\\.(?!bitCount|MIN_VALUE)", "Integer\\.(?!MIN_VALUE|MAX_VALUE)",
        "Arrays\\.(?!fill)", "static\\s+\\{", "\\bpackage\\b", "\\bstatic final (float|double)\\b", "[^\\x00-\\x7F]"};

    public static void main(String[] args) throws Exception {
        String source = Files.readString(Path.of("src/main/java/RegionWords.java"));
        String code = source.replaceAll("(?s)/\\*.*?\\*/", "").replaceAll("//[^\n]*", "");
        int wrong = 0;
        for (String never : NEVER) {
            Matcher matcher = Pattern.compile(never).matcher(code);
            while (matcher.find()) {
                wrong++;
                System.out.println("not in the language: " + matcher.group() + " near "
                    + code.substring(Math.max(0, matcher.start() - 30), Math.min(code.length(), matcher.end() + 30)));
            }
        }
        for (String line : List.of(source.split("\n"))) {
            if (line.startsWith("import ") && !line.equals("import java.util.Arrays;")) {
                wrong++;
                System.out.println("not in the library: " + line);
            }
        }
        wrong += longMethods(source);
        System.out.println("LanguageTest: " + wrong + " wrong");
        if (wrong != 0) {
            System.exit(1);
        }
    }

    /** Methods by their indents: some sixty lines at most, seven parameters. */
    private static int longMethods(String source) {
        int wrong = 0;
        Matcher matcher = Pattern.compile("(?m)^( {4}| {8})[a-zA-Z][^=;\n]*\\(([^)\n]*)\\) \\{\n(?s:.*?)\n\\1\\}").matcher(source);
        while (matcher.find()) {
            if (matcher.group().split("\n").length > 60 || matcher.group(2).split(",").length > 7) {
                wrong++;
                System.out.println("too long: " + matcher.group().split("\n")[0]);
            }
        }
        return wrong;
    }
}
