import java.nio.file.Files;
import java.nio.file.Path;
import java.util.ArrayList;
import java.util.List;
import java.util.regex.Matcher;
import java.util.regex.Pattern;

/** Those rules of ../shared/LANGUAGE.md that can be seen from the words of the file. */
public final class LanguageTest {
    private static final String[] NEVER = {
        "\\bthrow\\b", "\\bthrows\\b", "\\btry\\b", "\\bcatch\\b", "\\bsynchronized\\b", "\\bassert\\b", "\\bimport\\b",
        "\\bpackage\\b", "\\bprotected\\b", "\\bvar\\b", "->", "::", "\\bstatic\\s*\\{", "\\binstanceof\\b", "\\bnative\\b",
        "\\bSystem\\.(?!arraycopy)", "\\bMath\\.\\w+Exact", "\\bThread\\b", "\\bequals\\b", "\\bhashCode\\b", "\\btoString\\b",
        "\\bInteger\\b", "\\bdouble\\b", "\\bfloat\\b", "\\bwhile\\s*\\(\\s*true", "for\\s*\\(\\s*;"};

    private static int wrong = 0;

    public static void main(String[] args) throws Exception {
        List<String> lines = Files.readAllLines(Path.of("src/main/java/FoldedRows.java"));
        List<String> code = new ArrayList<>();
        for (String line : lines) {
            for (char c : line.toCharArray()) must(c >= 32 && c < 127, "a sign beyond 126: " + line);
            String bare = line.trim();
            boolean comment = bare.startsWith("/**") || bare.startsWith("*") || bare.startsWith("//");
            code.add(comment ? "" : line);
        }
        for (String line : code) {
            for (String each : NEVER) {
                must(!Pattern.compile(each).matcher(line).find(), each + " in: " + line);
            }
        }
        lengths(code);
        System.out.println(wrong == 0 ? "the language is kept" : wrong + " wrong");
        if (wrong != 0) System.exit(1);
    }

    private static void lengths(List<String> code) {
        Pattern head = Pattern.compile("^( +)(public |private |static |final )*[A-Za-z\\[\\]]+ ?[A-Za-z]*\\(.*\\) \\{$");
        for (int i = 0; i < code.size(); i++) {
            Matcher m = head.matcher(code.get(i));
            if (!m.find() || code.get(i).matches(" *(if|for|while|switch|else).*")) continue;
            int end = i;
            while (end < code.size() && !code.get(end).equals(m.group(1) + "}")) end++;
            must(end - i <= 60, "a long method: " + code.get(i));
        }
    }

    private static void must(boolean holds, String what) {
        if (!holds) {
            wrong++;
            System.out.println(what);
        }
    }
}
