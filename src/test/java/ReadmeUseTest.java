import java.io.IOException;
import java.lang.reflect.Field;
import java.lang.reflect.Method;
import java.lang.reflect.Modifier;
import java.nio.file.Path;
import java.util.regex.Matcher;
import java.util.regex.Pattern;

/** What README.md says of how to use the class: its program, its calls and their answers. */
public final class ReadmeUseTest {
    private static final String USE = "How to use it";
    private static final String CALLS = "The calls";
    private static final Path SOURCE = Path.of("src/main/java/FoldedRows.java");
    /** A call on x, and its answer behind //: a number, a sign in quotes, or a constant of the class. */
    private static final Pattern EXAMPLE =
        Pattern.compile("(x\\.\\w+\\(.*\\)); *// (-?\\d+|'.'|[A-Z]+)(: \\S.*)?");

    public static void main(String[] args) throws IOException {
        program();
        calls();
        everyCallIsShown();
        constants();
        Due.end();
    }

    /** As a user would: both files in one directory, then the commands as they stand there. */
    private static void program() throws IOException {
        try (Scratch at = new Scratch()) {
            at.copy(SOURCE, "FoldedRows.java");
            at.put("Example.java", Readme.block(USE, "java", 0));
            Due.due("exit code of the example program", at.run(at.dir, Readme.block(USE, "sh", 0)), 0);
            String want = Readme.block(USE, "text", 0);
            Due.must(at.printed.equals(want), "the example program prints\n" + at.printed + "and not\n" + want);
        }
    }

    /** All blocks as one program, in which each call with an answer is held against it. */
    private static void calls() throws IOException {
        StringBuilder program = new StringBuilder("public final class Calls {\n"
            + "static void due(String call, int got, int want) {\n"
            + "if (got != want) System.out.println(call + \" answered \" + got + \", README.md says \" + want);\n}\n"
            + "public static void main(String[] args) {\n");
        for (String line : callLines()) {
            Matcher m = EXAMPLE.matcher(line);
            boolean example = m.matches();
            Due.must(example || !line.startsWith("x."), "no answer stands behind " + line);
            program.append(example ? held(m.group(1), m.group(2)) : line).append('\n');
        }
        program.append("}\n}\n");
        try (Scratch at = new Scratch()) {
            at.copy(SOURCE, "FoldedRows.java");
            at.put("Calls.java", program.toString());
            int code = at.run(at.dir, "javac FoldedRows.java Calls.java\njava Calls");
            Due.must(code == 0 && at.printed.isEmpty(), "the calls: exit code " + code + "\n" + at.printed);
        }
    }

    private static String held(String call, String answer) {
        String want = Character.isLetter(answer.charAt(0)) ? "FoldedRows." + answer : answer;
        return "due(\"" + call.replace("\"", "\\\"") + "\", " + call + ", " + want + ");";
    }

    private static String[] callLines() throws IOException {
        return String.join("", Readme.blocks(CALLS, "java")).split("\n");
    }

    private static void everyCallIsShown() throws IOException {
        String all = "\n" + String.join("\n", callLines());
        for (Method m : FoldedRows.class.getDeclaredMethods()) {
            boolean shown = all.contains("\nx." + m.getName() + "(");
            Due.must(shown || !Modifier.isPublic(m.getModifiers()), "README.md shows no call of " + m.getName());
        }
    }

    private static void constants() throws IOException {
        String all = String.join("\n", Readme.lines());
        for (Field f : FoldedRows.class.getFields()) {
            try {
                String told = "`" + f.getName() + "` (" + f.getInt(null);
                Due.must(all.contains(told), "README.md does not tell " + told);
            } catch (IllegalAccessException e) {
                throw new IOException(e);
            }
        }
    }
}
