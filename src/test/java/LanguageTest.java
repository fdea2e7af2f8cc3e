import java.io.IOException;
import java.nio.file.Files;
import java.nio.file.Path;
import java.util.List;
import java.util.regex.Matcher;
import java.util.regex.Pattern;

/** What a look at the source shows of LANGUAGE.md; run from the project's root. */
public final class LanguageTest {
    private static final List<String> FORBIDDEN = List.of("->", "::", "\\bcatch\\b", "\\btry\\b", "\\bfinally\\b",
        "\\bsynchronized\\b", "\\bassert\\b", "\\bpackage\\b", "\\binstanceof\\b", "\\bvar\\b", "\\brecord\\b",
        "\" *\\+", "\\+ *\"", "\\bSystem\\.(?!arraycopy\\()", "Exact\\(", "String\\.", "\\bstatic *\\{", "@");

    public static void main(String[] args) throws IOException {
        List<String> lines = Files.readAllLines(Path.of("src/main/java/DiskImageDiff.java"));
        int imports = 0;
        int start = 0;
        for (int i = 0; i < lines.size(); i++) {
            String line = lines.get(i);
            for (String forbidden : FORBIDDEN) {
                Matcher matcher = Pattern.compile(forbidden).matcher(line);
                boolean comment = line.strip().startsWith("/**") || line.strip().startsWith("//");
                Kit.sameText("line " + (i + 1) + " with " + forbidden, String.valueOf(matcher.find() && !comment), "false");
            }
            Kit.sameText("signs of line " + (i + 1), String.valueOf(line.matches("[ -~]*")), "true");
            Kit.sameText("width of line " + (i + 1), String.valueOf(line.length() <= 120), "true");
            imports += line.startsWith("import ") ? 1 : 0;
            if (line.endsWith(") {") && line.matches(" {4}( {4})?[a-z].*") || line.endsWith("Exception {")) {
                start = i;
            }
            if (line.matches(" {4}( {4})?\\}")) {
                Kit.sameText("length of what ends in line " + (i + 1), String.valueOf(i - start < 60 || start == 0), "true");
                start = 0;
            }
        }
        Kit.same("imports", imports, 1);
        Kit.end("LanguageTest");
    }
}
