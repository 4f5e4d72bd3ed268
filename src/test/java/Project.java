import java.io.IOException;
import java.nio.file.Files;
import java.nio.file.Path;
import java.nio.file.StandardCopyOption;
import java.util.List;
import java.util.stream.Stream;

/** A copy of this project beside a shared directory of its own, where commands leave no trace. */
final class Project {
    static final String SCRIPT = ".ci/run";
    static final String TESTS = "src/test/java";
    static final String SHARED_TESTS = "../shared/tests";
    private static final String CLASS = "src/main/java/BitDrive.java";

    private final Path above;
    private final Path root;

    /** What a command printed, and how it ended. */
    record Ended(int code, String printed) {
    }

    /** The class and the script alone; tests are put in by the caller. */
    Project() throws IOException {
        above = Files.createTempDirectory("bitdrive");
        root = above.resolve("main");
        copy(Path.of(CLASS));
        copy(Path.of(SCRIPT));
        Files.createDirectories(root.resolve(TESTS));
        Files.createDirectories(root.resolve(SHARED_TESTS));
    }

    void copyTests() throws IOException {
        for (Path test : list(Path.of(TESTS))) {
            copy(test);
        }
    }

    private void copy(Path file) throws IOException {
        Path target = root.resolve(file);
        Files.createDirectories(target.getParent());
        Files.copy(file, target, StandardCopyOption.COPY_ATTRIBUTES);
    }

    void put(String file, String text) throws IOException {
        Files.writeString(root.resolve(file), text);
    }

    /** Runs lines of a shell as one command that ends at the first line that fails. */
    Ended run(String lines) throws IOException, InterruptedException {
        Process process = new ProcessBuilder("sh", "-e", "-c", lines).directory(root.toFile())
                .redirectErrorStream(true).redirectInput(ProcessBuilder.Redirect.from(Path.of("/dev/null").toFile()))
                .start();
        String printed = new String(process.getInputStream().readAllBytes());
        return new Ended(process.waitFor(), printed);
    }

    void remove() throws IOException {
        try (Stream<Path> paths = Files.walk(above)) {
            for (Path path : paths.sorted(java.util.Comparator.reverseOrder()).toList()) {
                Files.delete(path);
            }
        }
    }

    static List<Path> list(Path directory) throws IOException {
        try (Stream<Path> paths = Files.list(directory)) {
            return paths.filter(path -> path.toString().endsWith(".java")).sorted().toList();
        }
    }
}
