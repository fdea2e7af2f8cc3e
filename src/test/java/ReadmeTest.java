import java.io.ByteArrayOutputStream;
import java.io.IOException;
import java.io.PrintStream;
import java.lang.reflect.Method;
import java.lang.reflect.Modifier;
import java.net.URL;
import java.net.URLClassLoader;
import java.nio.file.Files;
import java.nio.file.Path;
import java.util.ArrayList;
import java.util.List;
import java.util.Set;
import java.util.TreeSet;
import java.util.regex.Matcher;
import java.util.regex.Pattern;
import java.util.stream.Stream;
import javax.tools.ToolProvider;

/** README.md: its example runs as it says, and it names every method, exception and test; run from the project's root. */
public final class ReadmeTest {
    private static final List<String> EXCEPTIONS = List.of("IndexOutOfBoundsException", "IllegalArgumentException",
        "IllegalStateException", "NoSuchElementException");

    private static List<String> lines;

    public static void main(String[] args) throws Exception {
        lines = Files.readAllLines(Path.of("README.md"));
        Kit.sameText("what the example prints", printed(block("```java")), block("```text"));
        methods();
        exceptions();
        tests();
        Kit.end("ReadmeTest");
    }

    /** The lines between a fence and the next one. */
    private static String block(String fence) {
        StringBuilder text = new StringBuilder();
        int start = lines.indexOf(fence);
        for (int i = start + 1; start >= 0 && !lines.get(i).equals("```"); i++) {
            text.append(lines.get(i)).append('\n');
        }
        return text.toString();
    }

    private static String printed(String program) throws Exception {
        Path folder = Files.createTempDirectory("readme");
        Path source = folder.resolve("Example.java");
        Files.writeString(source, program);
        String classes = System.getProperty("java.class.path");
        int code = ToolProvider.getSystemJavaCompiler().run(null, null, null, "-cp", classes, "-d", folder.toString(),
            source.toString());
        Kit.same("compiling the example", code, 0);
        ByteArrayOutputStream bytes = new ByteArrayOutputStream();
        PrintStream usual = System.out;
        try (URLClassLoader loader = new URLClassLoader(new URL[] {folder.toUri().toURL()})) {
            System.setOut(new PrintStream(bytes, true));
            loader.loadClass("Example").getMethod("main", String[].class).invoke(null, (Object) new String[0]);
        } finally {
            System.setOut(usual);
            try (Stream<Path> files = Files.list(folder)) {
                files.forEach(file -> file.toFile().delete());
            }
            folder.toFile().delete();
        }
        return bytes.toString().replace(System.lineSeparator(), "\n");
    }

    private static List<String> section(String heading) {
        List<String> found = new ArrayList<>();
        int start = lines.indexOf(heading);
        for (int i = start + 1; start >= 0 && i < lines.size() && !lines.get(i).startsWith("#"); i++) {
            found.add(lines.get(i));
        }
        return found;
    }

    private static Set<String> quoted(List<String> some, String pattern) {
        Set<String> found = new TreeSet<>();
        for (String line : some) {
            Matcher matcher = Pattern.compile("`(" + pattern + ")`").matcher(line);
            while (matcher.find()) {
                found.add(matcher.group(1));
            }
        }
        return found;
    }

    /** Every method of the face is told before the exceptions are. */
    private static void methods() {
        List<String> told = new ArrayList<>(section("### How a text becomes an image"));
        told.addAll(section("### What the methods answer"));
        Set<String> names = quoted(told, "[a-zA-Z]+");
        for (Method method : DiskImageDiff.class.getDeclaredMethods()) {
            if (Modifier.isPublic(method.getModifiers())) {
                Kit.sameText(method.getName() + " is told", String.valueOf(names.contains(method.getName())), "true");
            }
        }
    }

    /** The rows of the table are the throws clauses of the face, no more and no less. */
    private static void exceptions() {
        Set<String> told = new TreeSet<>();
        List<String> head = new ArrayList<>();
        for (String line : section("### What is thrown where")) {
            String[] cells = line.split("\\|", -1);
            if (line.startsWith("| call |")) {
                for (String cell : cells) {
                    head.add(cell.strip().replace("`", ""));
                }
            } else if (line.startsWith("| `")) {
                told.add(cells[1].strip().replace("`", "") + thrown(head, cells));
            }
        }
        Set<String> due = new TreeSet<>();
        for (Method method : DiskImageDiff.class.getDeclaredMethods()) {
            if (Modifier.isPublic(method.getModifiers()) && method.getExceptionTypes().length > 0) {
                StringBuilder row = new StringBuilder(method.getName());
                for (Class<?> type : method.getExceptionTypes()) {
                    row.append(' ').append(type.getSimpleName());
                }
                due.add(row.toString());
            }
        }
        Kit.sameText("what is thrown where", told.toString(), due.toString());
        Kit.sameText("the order of the columns", head.subList(2, 6).toString(), EXCEPTIONS.toString());
    }

    private static String thrown(List<String> head, String[] cells) {
        StringBuilder row = new StringBuilder();
        for (int i = 2; i < cells.length - 1; i++) {
            if (!cells[i].isBlank()) {
                row.append(' ').append(head.get(i));
            }
        }
        return row.toString();
    }

    private static void tests() throws IOException {
        Set<String> due = new TreeSet<>();
        try (Stream<Path> files = Files.list(Path.of("src/test/java"))) {
            files.map(file -> file.getFileName().toString().replace(".java", "")).forEach(due::add);
        }
        due.removeIf(name -> !name.endsWith("Test"));
        List<String> told = section("## How to run its tests");
        Kit.sameText("the tests", quoted(told, "[A-Z][A-Za-z]*Test").toString(), due.toString());
        Kit.sameText("the script", String.valueOf(told.contains("    .ci/run")), "true");
    }
}
