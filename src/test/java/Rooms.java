import java.io.IOException;
import java.io.UncheckedIOException;
import java.nio.file.Files;
import java.nio.file.Path;
import java.util.Comparator;
import java.util.stream.Stream;

/** Folders that last as long as a test, and commands that keep their files there. */
final class Rooms {
    private Rooms() {
    }

    static Path made() throws IOException {
        return Files.createTempDirectory("cards");
    }

    static void removed(Path room) throws IOException {
        try (Stream<Path> inside = Files.walk(room)) {
            inside.sorted(Comparator.reverseOrder()).forEach(Rooms::removeOne);
        }
    }

    private static void removeOne(Path path) {
        try {
            Files.delete(path);
        } catch (IOException e) {
            throw new UncheckedIOException(e);
        }
    }

    /** The exit code of these commands in a first line, and what they print behind it. */
    static String shell(Path room, String commands) throws IOException, InterruptedException {
        ProcessBuilder builder = new ProcessBuilder("sh", "-c", commands);
        builder.redirectError(room.resolve("errors").toFile());
        builder.environment().put("TMPDIR", room.toString());
        Process process = builder.start();
        String printed = new String(process.getInputStream().readAllBytes());
        return process.waitFor() + "\n" + printed;
    }
}
