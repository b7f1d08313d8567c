import java.lang.reflect.Method;
import java.nio.file.Files;
import java.nio.file.Path;
import java.util.List;
import java.util.regex.Matcher;
import java.util.regex.Pattern;
import java.util.stream.Collectors;
import java.util.stream.Stream;

/** README.md tells how to use the class and how to run its tests, as they are now. */
public final class ReadmeTest {
    private static final Pattern FENCED = Pattern.compile("(?s)```java\n(.*?)```");
    private static final Pattern TYPED = Pattern.compile("\"([^\"]*)\"\\.toCharArray\\(\\)\\) x\\.letter\\(c\\);");
    private static final Pattern CALL = Pattern.compile("x\\.(\\w+)\\(([-\\d, ]*)\\);\\s*// (-?\\d+):");
    private static final Pattern PRINTED = Pattern.compile("println\\(x\\.about\\(0, 1\\) \\+ x\\.about\\(1, 1\\)\\); // prints (\\d+),");

    private static final Check CHECK = new Check();

    public static void main(String[] args) throws Exception {
        String readme = Files.readString(Path.of("README.md"));
        List<String> tests = namesOfTests();
        CHECK.sentence("README.md says how to use the class", () -> exampleAnswersAsItSays(readme));
        CHECK.sentence("README.md says how to use the class: its calls", () -> namesEachCall(readme));
        CHECK.sentence("README.md says how to use the class: its refusals", () -> namesEachRefusal(readme));
        CHECK.sentence("how to run its tests", () -> namesEachTest(readme, tests));
        CHECK.end();
    }

    private static void holds(String what, boolean does) {
        CHECK.due(what, does ? 1 : 0, 1);
    }

    private static List<String> namesOfTests() throws Exception {
        try (Stream<Path> files = Files.list(Path.of("src/test/java"))) {
            return files.map(file -> file.getFileName().toString().replace(".java", "")).sorted().collect(Collectors.toList());
        }
    }

    /** The calls of the example are done in their order; each must answer the number behind its "//". */
    private static void exampleAnswersAsItSays(String readme) {
        Matcher fenced = FENCED.matcher(readme);
        holds("there is an example", fenced.find());
        String example = fenced.group(1);
        SnowBalls x = new SnowBalls();
        Matcher typed = TYPED.matcher(example);
        holds("the example types a lawn", typed.find());
        Play.type(x, typed.group(1));
        int calls = 0;
        for (Matcher call = CALL.matcher(example); call.find(); calls++) {
            CHECK.due(call.group(), answer(x, call.group(1), call.group(2)), Long.parseLong(call.group(3)));
        }
        CHECK.due("every line that calls tells an answer", calls, example.split("\n        x\\.", -1).length - 1);
        Matcher printed = PRINTED.matcher(example);
        holds("the example prints at last", printed.find());
        CHECK.due("what it prints", x.about(0, 1) + x.about(1, 1), Long.parseLong(printed.group(1)));
    }

    private static long answer(SnowBalls x, String name, String numbers) {
        String[] texts = numbers.isBlank() ? new String[0] : numbers.split(",");
        Object[] values = new Object[texts.length];
        for (int i = 0; i < texts.length; i++) values[i] = Integer.valueOf(texts[i].trim());
        for (Method method : SnowBalls.class.getMethods()) {
            if (!method.getName().equals(name) || method.getParameterCount() != values.length) continue;
            try {
                return ((Number) method.invoke(x, values)).longValue();
            } catch (ReflectiveOperationException e) {
                throw new IllegalStateException(e);
            }
        }
        throw new IllegalStateException("no call " + name);
    }

    private static void namesEachCall(String readme) {
        for (Method method : SnowBalls.class.getMethods()) {
            if (method.getDeclaringClass() != SnowBalls.class) continue;
            String shown = method.getParameterCount() == 0 ? "`" + method.getName() + "()`" : "`" + method.getName() + "(";
            holds("a row of the table has " + shown, Pattern.compile("(?m)^\\|.*" + Pattern.quote(shown)).matcher(readme).find());
        }
    }

    private static void namesEachRefusal(String readme) {
        holds("NONE", readme.contains("`NONE` (" + SnowBalls.NONE + ")"));
        holds("UNKNOWN", readme.contains("`UNKNOWN` (" + SnowBalls.UNKNOWN + ")"));
        holds("OUTSIDE", readme.contains("`OUTSIDE` (" + SnowBalls.OUTSIDE + ")"));
        holds("STATE", readme.contains("`STATE` (" + SnowBalls.STATE + ")"));
        holds("FULL", readme.contains("`FULL` (" + SnowBalls.FULL + ")"));
    }

    private static void namesEachTest(String readme, List<String> tests) {
        int at = readme.indexOf("## How to run its tests");
        holds("there is a part on the tests", at >= 0);
        String part = readme.substring(Math.max(at, 0));
        holds("it says what runs them all", part.contains(".ci/run"));
        for (String name : tests) holds("it names " + name, part.contains("`" + name + "`"));
    }
}
