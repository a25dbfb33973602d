import java.nio.file.Files;
import java.nio.file.Path;
import java.util.List;
import java.util.regex.Matcher;
import java.util.regex.Pattern;

/** What LANGUAGE.md rules out and can be seen in the text of the class; run from the project's folder. */
public final class LanguageTests {
    private static final String[] BARRED = {
        "throw", "throws", "try", "catch", "finally", "synchronized", "assert", "volatile", "transient", "native",
        "instanceof", "protected", "package", "Object", "Thread", "Random", "Exception", "equals", "hashCode",
        "toString", "Map", "Set", "Stream", "String", "List", "ArrayList", "Exact"};

    private LanguageTests() {
    }

    public static void main(String[] args) throws Exception {
        String source = Files.readString(Path.of("src/main/java/MirrorLane.java"));
        for (int i = 0; i < source.length(); i++) {
            if (source.charAt(i) > 126) {
                Checks.due("plain characters, at " + i, false, true);
            }
        }
        String bare = source.replaceAll("(?s)/\\*.*?\\*/", "").replaceAll("//[^\n]*", "").replaceAll("'(.)'", "0");
        for (String word : BARRED) {
            Checks.due("no " + word, Pattern.compile("\\b" + word + "\\b").matcher(bare).find(), false);
        }
        for (String sign : new String[] {"->", "::", "@", "\"", "...", "\t", "Exact("}) {
            Checks.due("no " + sign, bare.contains(sign), false);
        }
        Matcher imports = Pattern.compile("import ([^;]*);").matcher(bare);
        while (imports.find()) {
            Checks.due("import " + imports.group(1), imports.group(1).equals("java.util.Arrays"), true);
        }
        library(bare);
        lines(List.of(source.split("\n", -1)));
        Checks.end();
    }

    /** The library's static functions that are used: only those that stand in rule 4. */
    private static void library(String bare) {
        List<String> told = List.of("Math.min", "Math.max", "Integer.bitCount", "Arrays.fill", "System.arraycopy");
        Matcher calls = Pattern.compile("\\b(Math|Integer|Long|Arrays|System)\\.(\\w+)").matcher(bare);
        while (calls.find()) {
            Checks.due("in the library: " + calls.group(), told.contains(calls.group()), true);
        }
    }

    /** Methods of sixty lines at most, and no line too long to read. */
    private static void lines(List<String> lines) {
        int start = -1;
        for (int i = 0; i < lines.size(); i++) {
            String line = lines.get(i);
            Checks.due("line " + (i + 1) + " is short", line.length() <= 120, true);
            if (line.matches("( {4}| {8})[A-Za-z][^=;]*\\(.*\\) \\{")) {
                start = i;
            }
            if (line.matches("( {4}| {8})\\}") && start >= 0) {
                Checks.due("method at line " + (start + 1) + " is short", i - start < 60, true);
                start = -1;
            }
        }
    }
}
