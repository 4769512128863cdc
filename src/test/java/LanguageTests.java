import java.io.IOException;
import java.nio.file.Files;
import java.nio.file.Path;
import java.util.List;
import java.util.regex.Matcher;
import java.util.regex.Pattern;

/** What can be seen of the rules of LANGUAGE.md in the source itself, word by word. */
public final class LanguageTests {
    private static final Path SOURCE = Path.of("src/main/java/CutRepairer.java");
    private static final int LONGEST_METHOD = 60;
    private static final List<String> FORBIDDEN = List.of("throw", "throws", "try", "catch", "finally", "synchronized",
        "assert", "package", "var", "yield", "record", "sealed", "native", "volatile", "transient", "strictfp",
        "instanceof", "Thread", "Random", "System.nanoTime", "System.currentTimeMillis", "System.out", "System.err",
        "System.getenv", "System.getProperty", "System.exit", "Object", "Exception", "RuntimeException", "Exact",
        "hashCode", "equals", "toString", "Map", "HashMap", "Set", "goto");
    private static final List<String> LIBRARY = List.of("System.arraycopy", "Arrays.fill", "Math.min", "Math.max");

    private static final Due due = new Due();

    private LanguageTests() {
    }

    public static void main(String[] args) throws IOException {
        String source = Files.readString(SOURCE);
        due.is("signs from 1 to 127", source.chars().allMatch(c -> c > 0 && c < 128) ? 1 : 0, 1);
        String code = withoutComments(source);
        for (String word : FORBIDDEN) {
            due.is("the word " + word, count("\\b" + Pattern.quote(word) + "\\b", code), 0);
        }
        due.is("texts", count("\"", code), 0);
        due.is("lambdas", count("->", code), 0);
        due.is("method references", count("::", code), 0);
        due.is("imports", count("(?m)^import ", code), count("(?m)^import java\\.util\\.Arrays;$", code));
        due.is("import of more than needed", count("(?m)^import ", code), 1);
        due.is("public classes", count("\\bpublic final class\\b", code), 1);
        due.is("static blocks", count("\\bstatic\\s*\\{", code), 0);
        Matcher library = Pattern.compile("\\b(System|Arrays|Math|Integer|Long|String|List)\\.\\w+").matcher(code);
        while (library.find()) {
            due.is(library.group() + " is allowed", LIBRARY.contains(library.group()) ? 1 : 0, 1);
        }
        made(code);
        methodsAreShort(code);
        due.end();
    }

    /** All objects are made in constructors, as fields: so a call makes none, however many there are. */
    private static void made(String code) {
        for (String line : code.split("\n")) {
            if (line.contains(" new ") || line.contains("{new ")) {
                due.is("made as a field: " + line.trim(), line.contains("final ") ? 1 : 0, 1);
            }
        }
    }

    private static String withoutComments(String source) {
        return source.replaceAll("(?s)/\\*.*?\\*/", "").replaceAll("//[^\n]*", "");
    }

    private static int count(String pattern, String code) {
        Matcher matcher = Pattern.compile(pattern).matcher(code);
        int found = 0;
        while (matcher.find()) {
            found++;
        }
        return found;
    }

    private static void methodsAreShort(String code) {
        int start = -1;
        int depth = 0;
        String[] lines = code.split("\n");
        for (int i = 0; i < lines.length; i++) {
            String line = lines[i].trim();
            boolean opensMethod = line.endsWith("{") && line.contains("(") && !line.startsWith("for ")
                && !line.startsWith("if ") && !line.startsWith("while ") && !line.startsWith("switch ")
                && !line.startsWith("}");
            if (start < 0 && opensMethod) {
                start = i;
                depth = 0;
            }
            if (start >= 0) {
                depth += count("\\{", line) - count("\\}", line);
                if (depth == 0) {
                    due.is("length of the method at: " + lines[start].trim(), i - start < LONGEST_METHOD ? 1 : 0, 1);
                    start = -1;
                }
            }
        }
        due.is("all methods end", start, -1);
    }
}
