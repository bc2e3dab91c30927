import java.io.IOException;
import java.lang.reflect.Field;
import java.lang.reflect.Modifier;
import java.nio.file.Files;
import java.nio.file.Path;
import java.util.HashMap;
import java.util.Map;
import java.util.regex.Matcher;
import java.util.regex.Pattern;

/** Those rules of LANGUAGE.md that can be read off the words of the source; it is run from the project's folder. */
public final class LanguageTest {
    private static final Checks CHECKS = new Checks();
    private static final String[] FORBIDDEN = {
        "\\b(package|import|class\\s+(?!PairLegaliser\\b)\\w+|interface|enum|record|extends|implements)\\b",
        "\\b(protected|float|double|null|this|super|native|volatile|transient|var)\\b",
        "\\b(throw|throws|try|catch|finally|synchronized|assert|instanceof)\\b",
        "\\b(?!PairLegaliser\\b)[A-Z]\\w*[a-z]\\w*\\b",
        "->|::|\"|@",
        "\\]\\s*\\[",
        "\\bstatic (?!final (int|long) \\w+ =|\\w+ \\w+\\()\\S+",
        "(?m)^(?!    private final ).*\\bnew\\b",
        "\\bnew\\s+(?!(int|long|short|byte|char|boolean)\\[[A-Z]+\\];)",
        "(?m)^    (?!public |private |//|})\\S",
        "\\w\\([^()]*\\w\\(",
        "\\((\\w+ \\w+, ){7}",
        "(?m)^    (public|private)[^;\n]*\\{\n(?!    \\})(.*\n(?!    \\})){60}"};
    private static final Pattern METHOD =
        Pattern.compile("(?m)^    (?:public|private)[^;=\n]*?(\\w+)\\([^)]*\\) \\{\n((?:(?!    \\}).*\n)*)");

    public static void main(String[] args) throws IOException {
        String source = Files.readString(Path.of("src/main/java/PairLegaliser.java"));
        String code = source.replaceAll("//[^\n]*", "");
        for (String pattern : FORBIDDEN) {
            Matcher found = Pattern.compile(pattern).matcher(code);
            while (found.find()) {
                CHECKS.due("'" + found.group().strip() + "' is outside the language", false);
            }
        }
        CHECKS.due("files of the program", filesOfTheProgram(), 1);
        callsAreNotDeep(bodies(code));
        fieldsAreFew();
        CHECKS.end("LanguageTest");
    }

    private static long filesOfTheProgram() throws IOException {
        try (var files = Files.walk(Path.of("src/main"))) {
            return files.filter(Files::isRegularFile).count();
        }
    }

    private static Map<String, String> bodies(String code) {
        Map<String, String> bodies = new HashMap<>();
        Matcher method = METHOD.matcher(code);
        while (method.find()) {
            bodies.put(method.group(1), method.group(2));
        }
        CHECKS.due("the constructor and the 13 public methods at least are found", bodies.size() >= 14);
        return bodies;
    }

    /** Each round looks one call deeper, so that a method which calls itself, through others or not, is too deep as well. */
    private static void callsAreNotDeep(Map<String, String> bodies) {
        Map<String, Integer> depths = new HashMap<>();
        for (int round = 1; round <= 7; round++) {
            Map<String, Integer> before = Map.copyOf(depths);
            for (String method : bodies.keySet()) {
                depths.put(method, depth(bodies, before, method));
            }
        }
        depths.forEach((method, depth) -> CHECKS.due(method + " is at most six calls deep", depth <= 6));
    }

    private static int depth(Map<String, String> bodies, Map<String, Integer> before, String method) {
        int deepest = 0;
        for (String called : bodies.keySet()) {
            if (Pattern.compile("\\b" + called + "\\(").matcher(bodies.get(method)).find()) {
                deepest = Math.max(deepest, before.getOrDefault(called, 0));
            }
        }
        return deepest + 1;
    }

    private static void fieldsAreFew() {
        int fields = 0;
        for (Field field : PairLegaliser.class.getDeclaredFields()) {
            fields += Modifier.isStatic(field.getModifiers()) ? 0 : 1;
        }
        CHECKS.due("at most 40 fields beside the constants", fields <= 40);
    }
}
