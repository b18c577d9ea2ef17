import java.io.File;
import java.io.IOException;
import java.lang.reflect.Method;
import java.lang.reflect.Modifier;
import java.nio.file.Files;
import java.nio.file.Path;
import java.util.List;
import java.util.Set;
import java.util.TreeSet;
import java.util.regex.Matcher;
import java.util.regex.Pattern;

/**
 * The calls that README.md shows answer as README.md says: its blocks of Java become one program, in which
 * each call is held against the answer that stands behind it.
 */
public final class ReadmeTest {
    private static final Pattern CALL = Pattern.compile(
            "(x\\.(\\w+)\\(.*\\));\\s*// (-?\\d+|true|false|throws NoSuchElementException)(:.*)?");
    private static final String PROGRAM = "ReadmeCalls";

    private final Check check = new Check();
    private final StringBuilder helpers = new StringBuilder();
    private final StringBuilder calls = new StringBuilder();
    private final Set<String> shown = new TreeSet<>();

    public static void main(String[] args) throws IOException, InterruptedException {
        ReadmeTest test = new ReadmeTest();
        test.check.promise("README.md");
        test.read(Files.readAllLines(Path.of("README.md")));
        test.seeWholeFace();
        test.run();
        test.check.finish();
    }

    private void read(List<String> lines) {
        boolean java = false;
        boolean helper = false;
        for (int i = 0; i < lines.size(); i++) {
            String line = lines.get(i);
            if (line.startsWith("```")) {
                java = line.equals("```java");
                helper = java && i + 1 < lines.size() && lines.get(i + 1).startsWith("static ");
            } else if (helper) {
                helpers.append(line).append('\n');
            } else if (java) {
                readCall(i + 1, line);
            }
        }
    }

    private void readCall(int number, String line) {
        if (!line.startsWith("x.")) {
            calls.append(line).append('\n');
            return;
        }
        Matcher call = CALL.matcher(line);
        boolean answered = call.matches();
        check.due("line " + number + " shows a call with its answer: " + line, answered, true);
        if (answered) {
            shown.add(call.group(2));
            String name = "\"line " + number + ": " + call.group(1).replace("\"", "'") + "\"";
            calls.append(call.group(3).startsWith("throws")
                    ? "CHECK.noSuch(" + name + ", () -> " + call.group(1) + ");\n"
                    : "CHECK.due(" + name + ", " + call.group(1) + ", " + call.group(3) + ");\n");
        }
    }

    private void seeWholeFace() {
        for (Method m : LentBoxes.class.getDeclaredMethods()) {
            if (Modifier.isPublic(m.getModifiers())) {
                check.due("shows " + m.getName(), shown.contains(m.getName()), true);
            }
        }
    }

    private void run() throws IOException, InterruptedException {
        Path place = Files.createTempDirectory("readme");
        Path source = place.resolve(PROGRAM + ".java");
        Path compiled = place.resolve(PROGRAM + ".class");
        Files.writeString(source, "public final class " + PROGRAM + " {\nprivate static final Check CHECK = new Check();\n"
                + helpers + "public static void main(String[] args) {\nCHECK.promise(\"README.md\");\n" + calls
                + "CHECK.finish();\n}\n}\n");
        String classes = System.getProperty("java.class.path");
        boolean made = ends("javac", "-cp", classes, "-d", place.toString(), source.toString());
        check.due("its blocks compile", made, true);
        check.due("its calls answer so", made && ends("java", "-cp", place + File.pathSeparator + classes, PROGRAM), true);
        Files.deleteIfExists(compiled);
        Files.delete(source);
        Files.delete(place);
    }

    /** Whether a command ends well. */
    private static boolean ends(String... command) throws IOException, InterruptedException {
        return new ProcessBuilder(command).inheritIO().start().waitFor() == 0;
    }
}
