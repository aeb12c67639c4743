import java.io.IOException;
import java.nio.file.Files;
import java.nio.file.Path;
import java.util.List;
import java.util.regex.Pattern;

/** Some of the rules of LANGUAGE.md that can be seen from the source's text; run in the project's folder. */
public final class LanguageTest {
    private static final String[] FORBIDDEN = {
        "->", "::", "\\bsynchronized\\b", "\\bassert\\b", "\\bfinally\\b", "\\btry\\b", "\\bcatch\\b", "static \\{",
        "\\bhashCode\\b", "\\btoString\\b", "\\bpackage\\b", "\\bprotected\\b", "\\[\\]\\[\\]\\[\\]", "Exact\\(",
        "\\bLinked", "\\bMap\\b", "\\bSet\\b", "\\bObject\\b", "\\bSystem\\.(?!arraycopy)", "\\bRandom\\b", "\\bvar\\b"};

    public static void main(String[] args) throws IOException {
        List<String> lines = Files.readAllLines(Path.of("src/main/java/SpaceWarden.java"));
        int methodStart = -1;
        int classes = 0;
        for (int i = 0; i < lines.size(); i++) {
            String line = lines.get(i);
            String code = line.replaceAll("\"[^\"]*\"", "\"\"").replaceAll("^\\s*(//|\\*|/\\*\\*).*", "");
            for (String forbidden : FORBIDDEN) {
                Check.no("line " + (i + 1) + " holds " + forbidden, Pattern.compile(forbidden).matcher(code).find());
            }
            if (code.startsWith("import ")) {
                Check.yes("import " + code, code.equals("import java.util.NoSuchElementException;"));
            }
            for (int at = 0; at < line.length(); at++) {
                Check.yes("line " + (i + 1) + " is of signs 32 to 126", line.charAt(at) >= 32 && line.charAt(at) < 127);
            }
            if (code.matches(".*\\b(class|enum|interface|record) \\w+.*\\{")) {
                classes++;
            } else if (code.matches(" +(public|private).*\\(.*\\{")) {
                methodStart = i;
            } else if (methodStart >= 0 && code.matches(" {4}( {4})?\\}")) {
                Check.yes("the method at line " + (methodStart + 1) + " is short", i - methodStart < 60);
                methodStart = -1;
            }
        }
        Check.yes("at most twelve classes", classes <= 12);
        Check.finish();
    }
}
