import java.io.File;
import java.io.IOException;
import java.nio.file.Files;
import java.nio.file.Path;
import java.util.Map;
import java.util.Set;
import java.util.TreeSet;
import java.util.regex.Matcher;
import java.util.regex.Pattern;
import java.util.stream.Stream;

/** What README.md says of how to run the tests, tried on small projects with a .ci/run of their own. */
public final class ReadmeRunTest {
    private static final String RUN = "How to run the tests";
    private static final Path SCRIPT = Path.of(".ci/run");
    private static final Path TESTS = Path.of("src/test/java");
    private static final Pattern ROW = Pattern.compile("\\| `(\\w+)` \\|.*");

    public static void main(String[] args) throws IOException {
        theCommand();
        everyTestIsRun();
        whatFails();
        fromAnyDirectory();
        withJavaAlone();
        oneTestAlone();
        theTable();
        rowsOfCalls();
        Due.end();
    }

    private static void theCommand() throws IOException {
        Due.must(Readme.block(RUN, "sh", 0).equals(".ci/run\n"), "the command is .ci/run");
        Due.must(Files.isExecutable(SCRIPT), ".ci/run can be called");
    }

    private static void everyTestIsRun() throws IOException {
        try (Scratch at = project()) {
            at.put("main/src/test/java/SecondTest.java", program("SecondTest", 0));
            at.put("main/src/test/java/Helper.java", program("Helper", 1));
            at.put("shared/tests/OtherRuns.java", program("OtherRuns", 0));
            Due.due("exit code where all pass", ci(at), 0);
            for (String name : new String[] {"OwnTest", "SecondTest", "SharedRuns", "OtherRuns"}) {
                Due.must(at.printed.contains(name + " ran\n"), name + " is not run:\n" + at.printed);
            }
            Due.must(!at.printed.contains("Helper ran"), "a file is run that does not end with Test.java");
            Due.must(at.printed.endsWith("4 passed, 0 failed\n"), "how many passed stands not at the end of\n" + at.printed);
        }
    }

    private static void whatFails() throws IOException {
        fails("a test of the project", "main/src/test/java/OwnTest.java", program("OwnTest", 1));
        fails("a test of the project, by another exit code", "main/src/test/java/OwnTest.java", program("OwnTest", 3));
        fails("a test of the project, by what it throws", "main/src/test/java/OwnTest.java", thrower("OwnTest"));
        fails("a test of the project that does not compile", "main/src/test/java/OwnTest.java", "no Java");
        fails("a shared test", "shared/tests/SharedRuns.java", program("SharedRuns", 1));
        fails("a shared test that does not compile", "shared/tests/SharedRuns.java", "no Java");
        fails("a class that does not compile", "main/src/main/java/FoldedRows.java", "no Java");
        try (Scratch at = project()) {
            Files.delete(at.dir.resolve("shared/tests/SharedRuns.java"));
            Files.delete(at.dir.resolve("shared/tests"));
            Due.must(ci(at) != 0, ".ci/run passes where there are no shared tests");
        }
    }

    private static void fails(String what, String file, String text) throws IOException {
        try (Scratch at = project()) {
            at.put("main/src/test/java/ATest.java", program("ATest", 0));
            at.put("main/src/test/java/ZTest.java", program("ZTest", 0));
            at.put("shared/tests/ZRuns.java", program("ZRuns", 0));
            at.put(file, text);
            Due.must(ci(at) != 0, ".ci/run passes by " + what + ":\n" + at.printed);
        }
    }

    private static void fromAnyDirectory() throws IOException {
        try (Scratch at = project()) {
            Path elsewhere = Files.createDirectories(at.dir.resolve("else/where"));
            Due.due("exit code from another directory", at.run(elsewhere, "'" + at.dir + "/main/.ci/run'"), 0);
            Due.must(at.printed.endsWith("2 passed, 0 failed\n"), "from another directory:\n" + at.printed);
        }
    }

    /** Beside javac and java only what every system has that has a shell. */
    private static void withJavaAlone() throws IOException {
        try (Scratch at = project()) {
            Path bin = Files.createDirectories(at.dir.resolve("bin"));
            for (String tool : new String[] {"javac", "java", "dirname", "basename", "mktemp", "mkdir", "rm"}) {
                Files.createSymbolicLink(bin.resolve(tool), whereIs(tool));
            }
            int code = at.run(at.dir.resolve("main"), Readme.block(RUN, "sh", 0), Map.of("PATH", bin.toString()));
            Due.must(code == 0, ".ci/run needs more than javac and java:\n" + at.printed);
        }
    }

    private static Path whereIs(String tool) throws IOException {
        for (String dir : System.getenv("PATH").split(File.pathSeparator)) {
            Path file = Path.of(dir, tool);
            if (Files.isExecutable(file)) return file.toAbsolutePath();
        }
        throw new IOException("there is no " + tool);
    }

    private static void oneTestAlone() throws IOException {
        try (Scratch at = new Scratch()) {
            int code = at.run(Path.of("").toAbsolutePath(), Readme.block(RUN, "sh", 1));
            Due.must(code == 0 && at.printed.endsWith(" 0 wrong\n"), "one test alone: exit code " + code + "\n" + at.printed);
        }
    }

    private static void theTable() throws IOException {
        Set<String> told = new TreeSet<>();
        for (String line : Readme.lines()) {
            Matcher m = ROW.matcher(line);
            if (m.matches()) told.add(m.group(1) + ".java");
        }
        Set<String> there = new TreeSet<>();
        try (Stream<Path> all = Files.list(TESTS)) {
            all.map(each -> each.getFileName().toString()).filter(name -> name.endsWith("Test.java")).forEach(there::add);
        }
        Due.must(told.equals(there), "the table tells " + told + ", there are " + there);
    }

    private static void rowsOfCalls() throws IOException {
        try (Scratch at = new Scratch()) {
            at.put("Rows.java", "public final class Rows {\npublic static void main(String[] args) {\n"
                + Readme.block(RUN, "java", 0) + "Due.end();\n}\n}\n");
            String classes = System.getProperty("java.class.path");
            String path = "'" + Path.of(classes).toAbsolutePath() + File.pathSeparator + at.dir + "'";
            int code = at.run(at.dir, "javac -cp " + path + " -d . Rows.java\njava -cp " + path + " Rows");
            Due.must(code == 0, "rows of calls: exit code " + code + "\n" + at.printed);
        }
    }

    private static int ci(Scratch at) throws IOException {
        return at.run(at.dir.resolve("main"), Readme.block(RUN, "sh", 0));
    }

    /** A project beside its shared tests, as small as can be: of each kind one test, which passes. */
    private static Scratch project() throws IOException {
        Scratch at = new Scratch();
        at.copy(SCRIPT, "main/.ci/run");
        at.put("main/src/main/java/FoldedRows.java", "public final class FoldedRows { }\n");
        at.put("main/src/test/java/OwnTest.java", program("OwnTest", 0));
        at.put("shared/tests/SharedRuns.java", program("SharedRuns", 0));
        return at;
    }

    private static String program(String name, int code) {
        return "public final class " + name + " {\npublic static void main(String[] args) {\nnew FoldedRows();\n"
            + "System.out.println(\"" + name + " ran\");\nSystem.exit(" + code + ");\n}\n}\n";
    }

    private static String thrower(String name) {
        return "public final class " + name + " {\npublic static void main(String[] args) {\n"
            + "throw new IllegalStateException(\"thrown by a test on purpose\");\n}\n}\n";
    }
}
