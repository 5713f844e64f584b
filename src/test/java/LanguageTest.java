import java.nio.file.Files;
import java.nio.file.Path;
import java.util.List;
import java.util.regex.Matcher;
import java.util.regex.Pattern;

/** Rules of LANGUAGE.md that can be seen in the source's own lines. */
public final class LanguageTest {
    private static final String[] NEVER = {
        "(?m)^(?!.*\\b(case|default)\\b).*->", "::", "\\bfinally\\b", "\\bsynchronized\\b", "\\bassert\\b",
        "\\b(Float|Double|Object|Random|Thread|Map|Set|Optional)\\b", "System\\.(?!arraycopy)", "Exact\\b",
        "\\b(NullPointer|ArrayIndexOutOfBounds|ClassCast|NegativeArraySize|ArrayStore)Exception\\b", "\\bThrowable\\b",
        "catch\\s*\\([^)]*\\bException\\b", "\\bgetMessage\\b",
        "Math\\.(random|sqrt|cbrt|pow|exp|log|sin|cos|tan|hypot|round|rint|ceil|floor)\\(",
        "Long\\.(?!MIN_VALUE)[A-Z]", "Integer\\.[A-Z]", "Arrays\\.(?!fill|copyOf)",
        "static\\s+\\{", "\\bpackage\\b", "\\bstatic final (float|double)\\b", "[^\\x00-\\x7F]"};
    private static final List<String> LIBRARY = List.of("import java.util.Arrays;", "import java.util.ArrayList;",
        "import java.util.List;", "import java.util.Iterator;", "import java.util.NoSuchElementException;");

    public static void main(String[] args) throws Exception {
        String source = Files.readString(Path.of("src/main/java/RegionWords.java"));
        String code = source.replaceAll("(?s)/\\*.*?\\*/", "").replaceAll("//[^\n]*", "");
        int wrong = 0;
        for (String never : NEVER) {
            Matcher matcher = Pattern.compile(never).matcher(code);
            while (matcher.find()) {
                wrong++;
                System.out.println("not in the language: " + matcher.group() + " near "
                    + code.substring(Math.max(0, matcher.start() - 30), Math.min(code.length(), matcher.end() + 30)));
            }
        }
        for (String line : List.of(source.split("\n"))) {
            if (line.startsWith("import ") && !LIBRARY.contains(line)) {
                wrong++;
                System.out.println("not in the library: " + line);
            }
        }
        wrong += longMethods(source);
        System.out.println("LanguageTest: " + wrong + " wrong");
        if (wrong != 0) {
            System.exit(1);
        }
    }

    /** Methods by their indents: some sixty lines at most, seven parameters. */
    private static int longMethods(String source) {
        int wrong = 0;
        Matcher matcher = Pattern.compile("(?m)^( {4}| {8})[a-zA-Z][^=;\n]*\\(([^)\n]*)\\) \\{\n(?s:.*?)\n\\1\\}").matcher(source);
        while (matcher.find()) {
            if (matcher.group().split("\n").length > 60 || matcher.group(2).split(",").length > 7) {
                wrong++;
                System.out.println("too long: " + matcher.group().split("\n")[0]);
            }
        }
        return wrong;
    }
}
