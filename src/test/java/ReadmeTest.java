import java.io.IOException;
import java.nio.file.Files;
import java.nio.file.Path;
import java.util.ArrayList;
import java.util.List;

/** The example of README.md answers what its comments say, and README.md still has that example. */
public final class ReadmeTest {
    private ReadmeTest() {
    }

    public static void main(String[] args) throws IOException {
        example();
        isTheOneOfReadme();
        allCallsAreTold();
        Checks.end();
    }

    private static void example() {
        FlowMixer x = new FlowMixer();
        int a = x.node(1, 0, 0);
        int b = x.node(1, 1, 0);
        int c = x.node(1, 2, 0);
        int one = x.node(0, 1, 0);
        x.assign(0, 2, one);
        x.jump(0, 0, 0, 1, 0);
        x.jump(1, 1, a, 2, 3);
        x.assign(2, 2, x.node(4, c, b));
        x.assign(2, 0, x.node(3, a, one));
        x.jump(2, 0, 0, 1, 0);
        x.jump(3, 2, c, 0, 0);
        x.input(0, 3);
        x.input(1, 5);
        Checks.due("run", x.run(100), true);
        Checks.due("returned", x.result(0), 125);
        Checks.due("steps", x.result(1), 16);
        Checks.due("mix", x.mix(1), 9);
        Checks.due("compress", x.compress(), 1);
        Checks.due("text", Checks.text(x), "0:c=1;c=(c*b);c=(c*b);c=(c*b);!c;");
        Checks.due("input", x.input(1, -2), 5);
        Checks.due("follow", x.follow(100), true);
        Checks.due("returned behind", x.result(0), -8);
        Checks.due("steps behind", x.result(1), 5);
    }

    /** Each statement of README.md's example is in this file, in the same order. */
    private static void isTheOneOfReadme() throws IOException {
        String here = Files.readString(Path.of("src/test/java/ReadmeTest.java"));
        List<String> statements = readmeStatements();
        Checks.due("statements of the example", statements.size(), 19);
        int from = here.indexOf("private static void example()");
        for (String statement : statements) {
            int found = here.indexOf(statement, from);
            Checks.due("\"" + statement + "\" is tested", found >= 0, true);
            from = Math.max(from, found);
        }
    }

    private static List<String> readmeStatements() throws IOException {
        List<String> statements = new ArrayList<>();
        boolean isCode = false;
        for (String line : Files.readAllLines(Path.of("README.md"))) {
            if (line.startsWith("```")) {
                isCode = line.equals("```java");
            } else if (isCode) {
                statements.add(line.substring(0, line.indexOf(';')));
            }
        }
        return statements;
    }

    private static void allCallsAreTold() throws IOException {
        String readme = Files.readString(Path.of("README.md"));
        for (java.lang.reflect.Method method : FlowMixer.class.getDeclaredMethods()) {
            if (java.lang.reflect.Modifier.isPublic(method.getModifiers())) {
                Checks.due(method.getName() + " is told", readme.contains("| `" + method.getName() + "("), true);
            }
        }
    }
}
