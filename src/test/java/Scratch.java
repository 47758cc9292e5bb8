import java.io.IOException;
import java.nio.file.Files;
import java.nio.file.Path;
import java.nio.file.StandardCopyOption;
import java.util.Comparator;
import java.util.List;
import java.util.Map;
import java.util.stream.Stream;

/** A directory for one test, and what scripts print that run in it. It is gone behind the test. */
final class Scratch implements AutoCloseable {
    final Path dir;
    String printed = "";

    Scratch() throws IOException {
        dir = Files.createTempDirectory("folded-rows");
    }

    Path put(String name, String text) throws IOException {
        Path file = place(name);
        Files.writeString(file, text);
        return file;
    }

    Path copy(Path from, String name) throws IOException {
        return Files.copy(from, place(name), StandardCopyOption.COPY_ATTRIBUTES, StandardCopyOption.REPLACE_EXISTING);
    }

    Path place(String name) throws IOException {
        Path file = dir.resolve(name);
        Files.createDirectories(file.getParent());
        return file;
    }

    /** The exit code of a script that sh runs in a directory; what it makes for a while comes into this one. */
    int run(Path in, String script, Map<String, String> settings) throws IOException {
        ProcessBuilder started = new ProcessBuilder(List.of("/bin/sh", "-ec", script));
        started.directory(in.toFile()).redirectErrorStream(true);
        started.environment().put("TMPDIR", dir.toString());
        started.environment().putAll(settings);
        Process process = started.start();
        process.getOutputStream().close();
        printed = new String(process.getInputStream().readAllBytes());
        try {
            return process.waitFor();
        } catch (InterruptedException e) {
            throw new IOException(e);
        }
    }

    int run(Path in, String script) throws IOException {
        return run(in, script, Map.of());
    }

    @Override
    public void close() throws IOException {
        try (Stream<Path> all = Files.walk(dir)) {
            for (Path each : all.sorted(Comparator.reverseOrder()).toList()) Files.delete(each);
        }
    }
}
