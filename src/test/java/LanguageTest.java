import java.io.IOException;
import java.nio.file.Files;
import java.nio.file.Path;
import java.util.regex.Matcher;
import java.util.regex.Pattern;

/** Those rules of LANGUAGE.md that can be read off the words of the source; it is run from the project's folder. */
public final class LanguageTest {
    private static final Checks CHECKS = new Checks();
    private static final String[] FORBIDDEN = {
        "\\b(package|import|class\\s+(?!PairLegaliser\\b)\\w+|interface|enum|record|extends|implements)\\b",
        "\\b(protected|float|double|null|this|super|native|volatile|transient|var)\\b",
        "\\b(throw|throws|try|catch|finally|synchronized|assert|instanceof)\\b",
        "\\b(?!PairLegaliser\\b)[A-Z]\\w*[a-z]\\w*\\b",
        "->|::|\"|@",
        "\\]\\s*\\[",
        "\\bstatic (?!final (int|long) \\w+ =|\\w+ \\w+\\()\\S+",
        "(?m)^(?!    private final ).*\\bnew\\b",
        "\\bnew\\s+(?!(int|long|short|byte|char|boolean)\\[[A-Z]+\\];)",
        "(?m)^    (?!public |private |//|})\\S",
        "\\w\\([^()]*\\w\\(",
        "\\((\\w+ \\w+, ){7}",
        "(?m)^    (public|private)[^;\n]*\\{\n(?!    \\})(.*\n(?!    \\})){60}"};

    public static void main(String[] args) throws IOException {
        String source = Files.readString(Path.of("src/main/java/PairLegaliser.java"));
        String code = source.replaceAll("//[^\n]*", "");
        for (String pattern : FORBIDDEN) {
            Matcher found = Pattern.compile(pattern).matcher(code);
            while (found.find()) {
                CHECKS.due("'" + found.group().strip() + "' is outside the language", false);
            }
        }
        CHECKS.due("files of the program", filesOfTheProgram(), 1);
        CHECKS.end("LanguageTest");
    }

    private static long filesOfTheProgram() throws IOException {
        try (var files = Files.walk(Path.of("src/main"))) {
            return files.filter(Files::isRegularFile).count();
        }
    }
}
