import java.io.IOException;
import java.lang.reflect.Method;
import java.lang.reflect.Modifier;
import java.net.URL;
import java.net.URLClassLoader;
import java.nio.file.Files;
import java.nio.file.Path;
import java.nio.file.attribute.PosixFilePermission;
import java.util.ArrayList;
import java.util.List;
import java.util.regex.Matcher;
import java.util.regex.Pattern;
import java.util.stream.Collectors;
import java.util.stream.Stream;
import javax.tools.ToolProvider;

/** What README.md says holds: its examples, its tables, its commands. Runs in the project's folder. */
public final class ReadmeTest {
    private static final String ANSWER = "-> ";
    private static final String EXAMPLE = "ReadmeExample";
    private static final String[] FAULTS = {
        "none", "SHORT", "DIGIT", "TYPE", "MAP", "LENGTH", "LETTER", "BEHIND"};

    private static List<String> readme;
    private static Path room;

    private ReadmeTest() {
    }

    public static void main(String[] args) throws Exception {
        readme = Files.readAllLines(Path.of("README.md"));
        room = Rooms.made();
        try {
            examplesAnswerAsWritten();
            callsAreAllShown();
            fieldsAreTheDocuments();
            faultsAreAsWritten();
            testsAreAllNamed();
            compileCommandHolds();
            testCommandsHold();
        } finally {
            Rooms.removed(room);
        }
        Due.end("ReadmeTest");
    }

    /** The lines of all blocks of this language, a list for each block. */
    private static List<List<String>> blocks(String language) {
        List<List<String>> found = new ArrayList<>();
        List<String> open = null;
        for (String line : readme) {
            if (open != null && line.equals("```")) {
                found.add(open);
                open = null;
            } else if (open != null) {
                open.add(line);
            } else if (line.equals("```" + language)) {
                open = new ArrayList<>();
            }
        }
        return found;
    }

    /** The cells of the rows of a table that follows a heading, without its head. */
    private static List<String[]> table(String heading) {
        List<String[]> rows = new ArrayList<>();
        boolean inside = false;
        for (String line : readme) {
            if (line.startsWith("#")) {
                inside = line.equals(heading);
            } else if (inside && line.startsWith("| ")) {
                rows.add(Stream.of(line.substring(1).split("\\|")).map(String::trim).toArray(String[]::new));
            }
        }
        return rows.subList(1, rows.size());
    }

    // ---- the examples

    private static void examplesAnswerAsWritten() throws Exception {
        List<String> lines = new ArrayList<>();
        blocks("java").forEach(lines::addAll);
        List<String> calls = new ArrayList<>();
        List<String> wanted = new ArrayList<>();
        StringBuilder body = new StringBuilder();
        for (String line : lines) {
            int comment = line.indexOf("//");
            String code = (comment < 0 ? line : line.substring(0, comment)).trim();
            String told = comment < 0 ? "" : line.substring(comment + 2).trim();
            if (told.startsWith(ANSWER)) {
                calls.add(code);
                wanted.add(told.substring(ANSWER.length()).split(",")[0]);
                body.append(asking(code, wanted.get(wanted.size() - 1)));
            } else {
                body.append(code).append('\n');
            }
        }
        List<String> got = answers(body.toString());
        Due.due("README, answers", got.size(), wanted.size());
        Due.due("README has answers", wanted.size() > 20, true);
        for (int i = 0; i < Math.min(got.size(), wanted.size()); i++) {
            Due.due("README, " + calls.get(i), got.get(i), wanted.get(i));
        }
    }

    /** The code with what keeps its answer. */
    private static String asking(String code, String wanted) {
        String plain = code.substring(0, code.length() - 1);
        if (wanted.startsWith("throws ")) {
            return "try { answers.add(String.valueOf(" + asRunnable(plain) + ")); } catch (RuntimeException e)"
                    + " { answers.add(\"throws \" + e.getClass().getSimpleName()); }\n";
        }
        int equals = plain.indexOf(" = ");
        if (equals >= 0) {
            String name = plain.substring(plain.indexOf(' ') + 1, equals);
            return code + " answers.add(String.valueOf(" + name + "));\n";
        }
        return "answers.add(String.valueOf(" + plain + "));\n";
    }

    // A call without an answer can't stand where one is asked; Runnable takes both.
    private static String asRunnable(String call) {
        return "told(() -> " + call + ")";
    }

    private static List<String> answers(String body) throws Exception {
        Path source = room.resolve(EXAMPLE + ".java");
        Files.writeString(source, "public final class " + EXAMPLE + " {\n"
                + "static String told(Runnable call) { call.run(); return \"nothing\"; }\n"
                + "public static java.util.List<String> answers() {\n"
                + "java.util.List<String> answers = new java.util.ArrayList<>();\n"
                + body + "return answers;\n}\n}\n");
        int failed = ToolProvider.getSystemJavaCompiler().run(null, null, null, "-cp",
                System.getProperty("java.class.path"), "-d", room.toString(), source.toString());
        Due.due("README, the examples compile", failed, 0);
        if (failed != 0) {
            return List.of();
        }
        try (URLClassLoader loader = new URLClassLoader(new URL[] {room.toUri().toURL()})) {
            Object answers = loader.loadClass(EXAMPLE).getMethod("answers").invoke(null);
            return ((List<?>) answers).stream().map(String::valueOf).collect(Collectors.toList());
        }
    }

    private static void callsAreAllShown() {
        String shown = blocks("java").toString();
        for (Method one : CardMessages.class.getDeclaredMethods()) {
            if (Modifier.isPublic(one.getModifiers())) {
                Due.due("README shows " + one.getName(), shown.contains("x." + one.getName() + "("), true);
            }
        }
    }

    // ---- the tables

    private static void fieldsAreTheDocuments() {
        List<String[]> rows = table("### Fields");
        Due.due("README, fields", rows.size(), Due.FIELDS.length);
        for (int i = 0; i < Math.min(rows.size(), Due.FIELDS.length); i++) {
            int field = Due.FIELDS[i];
            String many = (Fields.isCounted(field) ? "1 .. " : "") + Fields.most(field);
            Due.due("README, field", rows.get(i)[0], "" + field);
            Due.due("README, name of field " + field, rows.get(i)[1], Fields.name(field));
            Due.due("README, what field " + field + " has", rows.get(i)[2],
                    Fields.hasLetters(field) ? "letters" : "digits");
            Due.due("README, how many field " + field + " has", rows.get(i)[3], many);
        }
    }

    private static void faultsAreAsWritten() {
        List<String[]> rows = table("### Faults");
        Due.due("README, kinds of faults", rows.size(), FAULTS.length);
        for (int kind = 0; kind < Math.min(rows.size(), FAULTS.length); kind++) {
            String[] row = rows.get(kind);
            CardMessages x = Due.taped(row[2]);
            Due.due("README, kind of fault", row[0], "" + kind);
            Due.due("README, name of fault " + kind, row[1], FAULTS[kind]);
            Due.due("README, fault(0) of " + row[2], "" + x.fault(0), row[0]);
            Due.due("README, fault(1) of " + row[2], "" + x.fault(1), row[3]);
            Due.due("README, read() of " + row[2], x.read(), kind == 0);
        }
    }

    // ---- the tests

    private static void testsAreAllNamed() throws IOException {
        String text = String.join("\n", readme);
        Path tests = Path.of("src/test/java");
        try (Stream<Path> files = Files.list(tests)) {
            for (Path file : files.collect(Collectors.toList())) {
                String name = file.getFileName().toString().replace(".java", "");
                Due.due("README names " + name, text.contains("`" + name + "`"), true);
            }
        }
        Matcher named = Pattern.compile("`([A-Za-z]+Test)`").matcher(text);
        while (named.find()) {
            Due.due("there is " + named.group(1), Files.exists(tests.resolve(named.group(1) + ".java")), true);
        }
        Due.due("README's first command of tests", blocks("sh").get(1).toString(), "[.ci/run]");
        boolean runs = Files.getPosixFilePermissions(Path.of(".ci/run")).contains(PosixFilePermission.OWNER_EXECUTE);
        Due.due(".ci/run can be run", runs, true);
    }

    private static void compileCommandHolds() throws Exception {
        Path user = room.resolve("Yours.java");
        Files.writeString(user, "public final class Yours {\npublic static void main(String[] args) {\n"
                + "System.out.println(new CardMessages().type());\n}\n}\n");
        String command = String.join("\n", blocks("sh").get(0));
        // It stands in the README as it would be given in this folder, which gets no files here.
        String here = command.replace("Yours.java", user.toString()).replace("-d out", "-d " + room.resolve("out"));
        Due.due("README, " + command, Rooms.shell(room, here), "0\n");
        String use = "java -cp " + room.resolve("out") + " Yours";
        Due.due("README, what was compiled", Rooms.shell(room, use), "0\n800\n");
    }

    private static void testCommandsHold() throws Exception {
        String commands = String.join("\n", blocks("sh").get(2));
        String told = Rooms.shell(room, commands);
        Due.due("README, a test by itself", told.matches("0\nDraftTest: [0-9]+ answers .*, 0 wrong\n"), true);
    }
}
