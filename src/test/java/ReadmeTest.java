import java.io.IOException;
import java.lang.reflect.Method;
import java.lang.reflect.Modifier;
import java.nio.file.Files;
import java.nio.file.Path;

/** What README.md shows is so; it runs in the project's folder. */
public final class ReadmeTest {
    private static final Checks C = new Checks();

    private static void example() {
        MillPaper mill = new MillPaper();
        mill.sign(0, 100, 300, 999);
        mill.sign(1, 60, 200, 999);
        mill.sign(1, 40, 500, 999);
        int price = mill.bestPrice(0, 0);
        int buyer = mill.named(0, 0, 0, price);
        long mean = mill.meanNamed(0, 0, price);
        mill.keep(0, 1, 2, 0);
        mill.row(1, 1, 3);
        mill.put(1, 0, 250);
        mill.put(1, 1, 250);
        mill.put(1, 2, 500);
        int first = mill.rest(0, 1, 250);
        long wrong = mill.outcome(0, 2);
        C.due("price", price, 201);
        C.due("buyer", buyer, 0);
        C.due("mean", mean, 1599000);
        C.due("first", first, -4);
        C.due("wrong", wrong, 0);
    }

    /** Each statement of the example in README.md is one of this test. */
    private static void sameStatements(String readme, String test) {
        int begin = readme.indexOf("```java");
        int end = readme.indexOf("```", begin + 3);
        C.holds("README.md has an example", begin >= 0 && end > begin);
        for (String line : readme.substring(begin, end).split("\n")) {
            int behind = line.indexOf(';') + 1;
            C.holds("the test has " + line, test.contains(line.substring(0, behind)));
        }
    }

    private static void allCalls(String readme) {
        for (Method method : MillPaper.class.getDeclaredMethods()) {
            if (Modifier.isPublic(method.getModifiers())) {
                C.holds("README.md tells of " + method.getName(), readme.contains("`" + method.getName() + "`"));
            }
        }
    }

    public static void main(String[] args) throws IOException {
        String readme = Files.readString(Path.of("README.md"));
        example();
        sameStatements(readme, Files.readString(Path.of("src/test/java/ReadmeTest.java")));
        allCalls(readme);
        C.end();
    }
}
