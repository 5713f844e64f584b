import java.io.IOException;
import java.nio.file.Files;
import java.nio.file.Path;
import java.nio.file.StandardCopyOption;
import java.util.ArrayList;
import java.util.List;
import java.util.stream.Stream;

/** .ci/run runs each test of a project and each of ../shared/tests, from wherever it is called, and fails if one fails. */
public final class RunTest {
    private static final String GOOD = "RegionWords x = new RegionWords(); if (x.undo() != -3) { System.exit(1); }";
    private static final String BAD = "System.exit(1);";
    private static final String BROKEN = "no java";

    private static int wrong = 0;

    public static void main(String[] args) throws Exception {
        Path folder = Files.createTempDirectory("run");
        try {
            List<Process> running = new ArrayList<>();
            List<Integer> due = new ArrayList<>();
            String[][] tests = {
                {GOOD, GOOD, GOOD, GOOD}, {BAD, GOOD, GOOD, GOOD}, {GOOD, GOOD, BAD, GOOD},
                {BROKEN, GOOD, GOOD, GOOD}, {GOOD, GOOD, BROKEN, GOOD}, {GOOD, GOOD, null, null}};
            for (int i = 0; i < tests.length; i++) {
                running.add(started(project(folder.resolve("case" + i), tests[i])));
                due.add(i == 0 ? 0 : 1);
            }
            for (int i = 0; i < tests.length; i++) {
                String said = new String(running.get(i).getInputStream().readAllBytes());
                check("case " + i, running.get(i).waitFor(), due.get(i), said);
                for (int k = 0; i == 0 && k < 4; k++) {
                    check("ok " + name(k), said.contains("ok " + name(k) + "\n") ? 1 : 0, 1, said);
                }
            }
        } finally {
            remove(folder);
        }
        System.out.println("RunTest: " + wrong + " wrong");
        if (wrong != 0) {
            System.exit(1);
        }
    }

    private static void check(String what, int got, int due, String said) {
        if (got != due) {
            wrong++;
            System.out.println("RunTest, " + what + ": " + got + ", due is " + due + ":\n" + said);
        }
    }

    private static String name(int test) {
        return new String[] {"FirstTest", "SecondTest", "FirstRuns", "SecondRuns"}[test];
    }

    /** Two tests of its own and two shared ones; those that are null are left out. */
    private static Path project(Path folder, String[] tests) throws IOException {
        Path own = folder.resolve("main");
        copied(Path.of(".ci/run"), own.resolve(".ci/run"));
        copied(Path.of("src/main/java/RegionWords.java"), own.resolve("src/main/java/RegionWords.java"));
        Files.createDirectories(own.resolve("src/test/java"));
        Files.createDirectories(folder.resolve("shared/tests"));
        for (int i = 0; i < tests.length; i++) {
            if (tests[i] != null) {
                Path place = i < 2 ? own.resolve("src/test/java") : folder.resolve("shared/tests");
                Files.writeString(place.resolve(name(i) + ".java"),
                    "public final class " + name(i) + " { public static void main(String[] args) { " + tests[i] + " } }");
            }
        }
        return own.resolve(".ci/run").toAbsolutePath();
    }

    private static void copied(Path from, Path to) throws IOException {
        Files.createDirectories(to.getParent());
        Files.copy(from, to, StandardCopyOption.COPY_ATTRIBUTES);
    }

    private static Process started(Path script) throws IOException {
        return new ProcessBuilder("bash", script.toString())
            .directory(script.getRoot().toFile()).redirectErrorStream(true).start();
    }

    private static void remove(Path folder) throws IOException {
        List<Path> found;
        try (Stream<Path> all = Files.walk(folder)) {
            found = new ArrayList<>(all.toList());
        }
        for (int i = found.size() - 1; i >= 0; i--) {
            Files.delete(found.get(i));
        }
    }
}
