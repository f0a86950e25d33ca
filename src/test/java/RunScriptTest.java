import java.io.IOException;
import java.nio.file.Files;
import java.nio.file.Path;

/** .ci/run fails if any test fails, in small projects made for this. Runs in the project's folder. */
public final class RunScriptTest {
    private static final String MAIN = "src/main/java/CardMessages.java";
    private static final String TESTS = "src/test/java/";
    private static final String SHARED = "../shared/tests/";

    private static Path room;
    private static Path project;
    private static String told;

    private RunScriptTest() {
    }

    public static void main(String[] args) throws Exception {
        room = Rooms.made();
        project = Files.createDirectories(room.resolve("main"));
        try {
            copy(".ci/run");
            copy(MAIN);
            copy(TESTS + "Due.java");
            withoutTests();
            withPassing();
            withFailing();
            withBroken();
        } finally {
            Rooms.removed(room);
        }
        Due.end("RunScriptTest");
    }

    private static void withoutTests() throws Exception {
        Due.due("without shared tests, .ci/run", run() != 0, true);
    }

    private static void withPassing() throws Exception {
        write(SHARED + "One.java", ending("One", 0));
        write(TESTS + "TwoTest.java", ending("TwoTest", 0));
        Due.due("with passing tests, .ci/run", run(), 0);
        tells("passed: " + SHARED + "One.java");
        tells("passed: " + TESTS + "TwoTest.java");
        tells("2 passed, 0 failed");
    }

    /** A test behind the failing one passes, and doesn't hide it. */
    private static void withFailing() throws Exception {
        write(SHARED + "One.java", ending("One", 1));
        Due.due("with a failing shared test, .ci/run", run() != 0, true);
        tells("FAILED: " + SHARED + "One.java");
        tells("passed: " + TESTS + "TwoTest.java");
        tells("1 passed, 1 failed");
        write(SHARED + "One.java", ending("One", 0));
        write(TESTS + "TwoTest.java", ending("TwoTest", 1));
        write(TESTS + "UpTest.java", ending("UpTest", 0));
        Due.due("with a failing test, .ci/run", run() != 0, true);
        tells("FAILED: " + TESTS + "TwoTest.java");
        tells("passed: " + TESTS + "UpTest.java");
        tells("2 passed, 1 failed");
    }

    private static void withBroken() throws Exception {
        write(TESTS + "TwoTest.java", "public final class TwoTest {");
        Due.due("with a test that does not compile, .ci/run", run() != 0, true);
        tells("FAILED: " + TESTS + "TwoTest.java");
        tells("2 passed, 1 failed");
    }

    private static String ending(String name, int code) {
        return "public final class " + name + " {\npublic static void main(String[] args) {\n"
                + "CardMessages x = new CardMessages();\nSystem.exit(" + code + ");\n}\n}\n";
    }

    private static void copy(String file) throws IOException {
        Path to = project.resolve(file);
        Files.createDirectories(to.getParent());
        Files.copy(Path.of(file), to);
    }

    private static void write(String file, String text) throws IOException {
        Path to = project.resolve(file).normalize();
        Files.createDirectories(to.getParent());
        Files.writeString(to, text);
    }

    /** The exit code. */
    private static int run() throws Exception {
        told = Rooms.shell(room, "sh " + project.resolve(".ci/run"));
        return Integer.parseInt(told.lines().findFirst().orElse("-1"));
    }

    private static void tells(String line) {
        Due.due(".ci/run prints " + line, told.lines().anyMatch(line::equals), true);
    }
}
