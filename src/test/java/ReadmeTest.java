import java.io.File;
import java.io.IOException;
import java.nio.file.Files;
import java.nio.file.Path;
import java.util.ArrayList;
import java.util.List;
import java.util.TreeSet;
import java.util.regex.Matcher;
import java.util.regex.Pattern;
import java.util.stream.Stream;

/** What README.md shows compiles and answers as it says there; the tests that it names are those that there are. */
public final class ReadmeTest {
    private static final Pattern BLOCK = Pattern.compile("(?ms)^```(\\w+)\n(.*?)^```$");
    private static final Pattern ASKED = Pattern.compile("x\\.(\\w+)(\\(.*\\));\\s+// ([A-Z]+|-?\\d+)(:.*|,.*)?");
    private static final List<String> WRONG = new ArrayList<>();
    private static final TreeSet<String> SHOWN = new TreeSet<>();

    public static void main(String[] args) throws Exception {
        String text = Files.readString(Path.of("README.md"));
        String use = section(text, "## How to use it");
        String tests = section(text, "## How to run its tests");
        Path folder = Files.createTempDirectory("readme");
        try {
            Files.createSymbolicLink(folder.resolve("src"), Path.of("src").toAbsolutePath());
            runExample(folder, use);
            answersAsShown(folder, blocks(use, "java"));
            testsAsTold(folder, tests);
        } finally {
            remove(folder);
        }
        WRONG.forEach(System.out::println);
        System.out.println("ReadmeTest: " + SHOWN.size() + " calls shown, " + WRONG.size() + " wrong");
        if (!WRONG.isEmpty()) {
            System.exit(1);
        }
    }

    private static String section(String text, String head) {
        int at = text.indexOf("\n" + head + "\n");
        int end = text.indexOf("\n## ", at + 1);
        return at < 0 ? "" : text.substring(at, end < 0 ? text.length() : end);
    }

    private static List<String> blocks(String text, String sort) {
        List<String> found = new ArrayList<>();
        Matcher matcher = BLOCK.matcher(text);
        while (matcher.find()) {
            if (matcher.group(1).equals(sort)) {
                found.add(matcher.group(2));
            }
        }
        return found;
    }

    private static void expect(String what, Object got, Object due) {
        if (!got.equals(due)) {
            WRONG.add("README.md, " + what + ":\n" + got + "\ndue is:\n" + due);
        }
    }

    /** What the commands print; an exit code other than 0 is told behind it. */
    private static String printed(Path folder, String commands) throws IOException, InterruptedException {
        Process process = new ProcessBuilder("bash", "-e", "-c", commands)
            .directory(folder.toFile()).redirectErrorStream(true).start();
        String said = new String(process.getInputStream().readAllBytes());
        int code = process.waitFor();
        return code == 0 ? said : said + "exit code " + code;
    }

    private static void runExample(Path folder, String use) throws Exception {
        Files.writeString(folder.resolve("Example.java"), blocks(use, "java").get(0));
        expect("Example.java", printed(folder, blocks(use, "sh").get(0)), blocks(use, "text").get(0));
    }

    /** Each block as it stands, and once more with each call's answer held to what is told behind it. */
    private static void answersAsShown(Path folder, List<String> blocks) throws Exception {
        StringBuilder program = new StringBuilder("public class Shown {\n");
        StringBuilder calls = new StringBuilder();
        for (int i = 1; i < blocks.size(); i++) {
            program.append("static void plain" + i + "() {\n" + blocks.get(i) + "}\n");
            program.append("static void held" + i + "() {\n");
            for (String line : blocks.get(i).split("\n")) {
                program.append(held(line)).append('\n');
            }
            program.append("}\n");
            calls.append("plain" + i + "();\nheld" + i + "();\n");
        }
        program.append("static void due(String call, long got, long want) {\n"
            + "if (got != want) { System.out.println(call + \" answers \" + got + \", shown is \" + want); }\n}\n");
        program.append("public static void main(String[] args) {\n" + calls + "}\n}\n");
        Files.writeString(folder.resolve("Shown.java"), program);
        expect("blocks", printed(folder, "javac -d shown src/main/java/RegionWords.java Shown.java && java -cp shown Shown"), "");
        TreeSet<String> face = new TreeSet<>();
        for (var method : RegionWords.class.getDeclaredMethods()) {
            if (java.lang.reflect.Modifier.isPublic(method.getModifiers())) {
                face.add(method.getName());
            }
        }
        expect("calls shown", SHOWN, face);
    }

    private static String held(String line) {
        Matcher matcher = ASKED.matcher(line.strip());
        if (!matcher.matches()) {
            if (line.strip().startsWith("x.") && !line.startsWith(" ")) {
                WRONG.add("README.md tells no answer: " + line);
            }
            if (line.strip().startsWith("x.feed(")) {
                SHOWN.add("feed");
            }
            return line;
        }
        SHOWN.add(matcher.group(1));
        String told = matcher.group(3);
        String want = told.matches("[A-Z]+") ? "RegionWords." + told : told + "L";
        String call = "x." + matcher.group(1) + matcher.group(2);
        return "due(\"" + call.replace("\"", "\\\"") + "\", " + call + ", " + want + ");";
    }

    /** .ci/run itself is tried by RunTest. */
    private static void testsAsTold(Path folder, String tests) throws Exception {
        List<String> commands = blocks(tests, "sh");
        expect("how to run the tests", commands.get(0), ".ci/run\n");
        expect(".ci/run is a program", Files.isExecutable(Path.of(".ci/run")), true);
        String said = printed(folder, commands.get(1));
        if (!said.matches("RegionTest: \\d+ answers as due, 0 not\n")) {
            WRONG.add("README.md, one test alone:\n" + said);
        }
        TreeSet<String> named = new TreeSet<>();
        Matcher matcher = Pattern.compile("`(\\w+Test)`").matcher(tests);
        while (matcher.find()) {
            named.add(matcher.group(1));
        }
        TreeSet<String> there = new TreeSet<>();
        for (String name : new File("src/test/java").list()) {
            if (name.endsWith("Test.java")) {
                there.add(name.substring(0, name.length() - ".java".length()));
            }
        }
        expect("tests named", named, there);
    }

    private static void remove(Path folder) throws IOException {
        List<Path> found;
        try (Stream<Path> all = Files.walk(folder)) {
            found = new ArrayList<>(all.toList());
        }
        for (int i = found.size() - 1; i >= 0; i--) {
            Files.delete(found.get(i));
        }
    }
}
