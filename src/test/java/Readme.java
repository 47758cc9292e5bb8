import java.io.IOException;
import java.nio.file.Files;
import java.nio.file.Path;
import java.util.ArrayList;
import java.util.List;

/** README.md as the tests read it: its code blocks, by language and by the section in which they stand. */
final class Readme {
    static final Path FILE = Path.of("README.md");

    private Readme() { }

    static List<String> lines() throws IOException {
        return Files.readAllLines(FILE);
    }

    /** The blocks of one language in a section ("## ..."), in their order. */
    static List<String> blocks(String section, String language) throws IOException {
        List<String> found = new ArrayList<>();
        StringBuilder block = null;
        String in = "";
        String of = "";
        for (String line : lines()) {
            if (block == null && line.startsWith("```")) {
                block = new StringBuilder();
                of = line.substring(3);
            } else if (block != null && line.equals("```")) {
                if (in.equals(section) && of.equals(language)) found.add(block.toString());
                block = null;
            } else if (block != null) {
                block.append(line).append('\n');
            } else if (line.startsWith("## ")) {
                in = line.substring(3);
            }
        }
        if (block != null) throw new IOException("README.md: a block without an end");
        return found;
    }

    /** The one at that place; without it there is nothing to test. */
    static String block(String section, String language, int k) throws IOException {
        List<String> found = blocks(section, language);
        if (k >= found.size()) {
            throw new IOException("README.md, " + section + ": " + found.size() + " blocks of " + language);
        }
        return found.get(k);
    }
}
