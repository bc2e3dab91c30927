import java.io.IOException;
import java.lang.reflect.Field;
import java.lang.reflect.Method;
import java.lang.reflect.Modifier;
import java.nio.file.Files;
import java.nio.file.Path;
import java.util.List;

/** README.md against the class and the tests; it is run from the project's folder. */
public final class ReadmeTest {
    private static final Checks CHECKS = new Checks();
    private static final List<String> EXAMPLE = List.of(
        "PairLegaliser x = new PairLegaliser();", "x.set(0, 5);", "x.set(1, 1);", "x.set(2, 3);",
        "x.append(3, 1, 1, 2);", "x.loop(0, 0);", "x.run();", "x.get(1);", "x.worked();");

    public static void main(String[] args) throws IOException {
        String readme = Files.readString(Path.of("README.md"));
        exampleIsTheOneRunHere(readme);
        example();
        namesTheFace(readme);
        namesTheTests(readme);
        CHECKS.end("ReadmeTest");
    }

    private static void exampleIsTheOneRunHere(String readme) {
        String block = readme.split("```java\n", 2)[1].split("```", 2)[0];
        List<String> calls = block.lines().map(line -> line.replaceAll("\\s*//.*", "")).toList();
        CHECKS.due("the example of README.md is the one run here", calls.equals(EXAMPLE));
    }

    private static void example() {
        PairLegaliser x = new PairLegaliser();
        CHECKS.due("set(0, 5)", x.set(0, 5), 0);
        CHECKS.due("set(1, 1)", x.set(1, 1), 0);
        CHECKS.due("set(2, 3)", x.set(2, 3), 0);
        CHECKS.due("append(3, 1, 1, 2)", x.append(3, 1, 1, 2), 0);
        CHECKS.due("loop(0, 0)", x.loop(0, 0), 1);
        CHECKS.due("run()", x.run(), PairLegaliser.DONE);
        CHECKS.due("get(1)", x.get(1), 729);
        CHECKS.due("worked()", x.worked(), 12);
    }

    private static void namesTheFace(String readme) {
        for (Method method : PairLegaliser.class.getDeclaredMethods()) {
            if (Modifier.isPublic(method.getModifiers())) {
                CHECKS.due("README.md tells of " + method.getName(), readme.contains("| `" + method.getName() + "("));
            }
        }
        for (Field field : PairLegaliser.class.getDeclaredFields()) {
            if (Modifier.isPublic(field.getModifiers())) {
                CHECKS.due("README.md tells of " + field.getName(), readme.contains("`" + field.getName() + "`"));
            }
        }
    }

    private static void namesTheTests(String readme) throws IOException {
        try (var files = Files.list(Path.of("src/test/java"))) {
            for (Path file : files.sorted().toList()) {
                String name = file.getFileName().toString().replace(".java", "");
                boolean told = readme.contains("| " + name + " |") || readme.contains("`" + name + "`");
                CHECKS.due("README.md tells of " + name, told);
            }
        }
    }
}
