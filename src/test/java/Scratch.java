import java.io.File;
import java.io.IOException;
import java.nio.charset.StandardCharsets;
import java.nio.file.Files;
import java.nio.file.Path;
import java.util.Comparator;
import java.util.List;
import java.util.stream.Collectors;
import java.util.stream.Stream;

/** A directory of its own for tests that run commands; it is gone when it is closed. */
final class Scratch implements AutoCloseable {
    private final Path root;
    String printed = "";
    int exitCode = -1;

    Scratch() throws IOException {
        root = Files.createTempDirectory("scratch");
    }

    Path write(String name, String content) throws IOException {
        Path file = root.resolve(name);
        Files.createDirectories(file.getParent());
        return Files.writeString(file, content);
    }

    /** Runs a command in a directory below this one and keeps what it prints, errors included. */
    void run(String directory, String... command) throws IOException, InterruptedException {
        File place = root.resolve(directory).toFile();
        Process process = new ProcessBuilder(command).directory(place).redirectErrorStream(true).start();
        process.getOutputStream().close();
        printed = new String(process.getInputStream().readAllBytes(), StandardCharsets.UTF_8);
        exitCode = process.waitFor();
    }

    @Override
    public void close() throws IOException {
        List<Path> deepestFirst;
        try (Stream<Path> all = Files.walk(root)) {
            deepestFirst = all.sorted(Comparator.reverseOrder()).collect(Collectors.toList());
        }
        for (Path path : deepestFirst) {
            Files.delete(path);
        }
    }
}
