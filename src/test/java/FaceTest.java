import java.lang.reflect.Field;
import java.lang.reflect.Method;
import java.lang.reflect.Modifier;
import java.nio.file.Files;
import java.nio.file.Path;
import java.util.Set;
import java.util.TreeSet;

/** The public face just as the document has it, and those rules of LANGUAGE.md that can be seen from outside. */
public final class FaceTest {
    private static final String[] FACE = {
        "int letter(int)", "int blank()", "int fault()", "int lawn()", "int place(int,int)", "int strength(int)",
        "int ball(int,int)", "int about(int,int)", "int as(int,int)", "int may(int,int)", "int roll(int,int)",
        "int lift(int,int)", "int day(int)", "int largest(int,int,int)", "int comes(int,int)", "int highest(int)",
        "int lasts(int)", "int book(int,int,int,int)", "int games(int,int,int)", "int image()", "int restore()",
        "int count(int)", "long digest()"};
    private static final String[] CONSTANTS = {"NONE", "UNKNOWN", "OUTSIDE", "STATE", "FULL"};
    private static final String[] NOT_IN_SOURCE = {
        "import ", "package ", "->", "::", "try", "catch", "finally", "synchronized", "assert", "System.", "@Override",
        "ordinal", "hashCode", "toString", "String.format", "protected", "throw", "Exact("};

    private static int passed = 0;
    private static int failed = 0;

    public static void main(String[] args) throws Exception {
        methods();
        constants();
        nestedClasses();
        source();
        System.out.println(passed + " passed, " + failed + " failed");
        if (failed != 0) System.exit(1);
    }

    private static void holds(String what, boolean does) {
        if (does) {
            passed++;
        } else {
            failed++;
            System.out.println("does not hold: " + what);
        }
    }

    private static String told(Method method) {
        StringBuilder text = new StringBuilder(method.getReturnType() + " " + method.getName() + "(");
        for (int i = 0; i < method.getParameterCount(); i++) {
            text.append(i > 0 ? "," : "").append(method.getParameterTypes()[i]);
        }
        return text.append(")").toString();
    }

    private static void methods() {
        Set<String> open = new TreeSet<>();
        for (Method method : SnowBalls.class.getDeclaredMethods()) {
            if (Modifier.isPrivate(method.getModifiers())) continue;
            open.add(told(method));
            holds(method + " is public and no more", method.getModifiers() == Modifier.PUBLIC);
        }
        holds("the methods are those of the document: " + open, open.equals(new TreeSet<>(Set.of(FACE))));
        holds("the class is public and final", SnowBalls.class.getModifiers() == (Modifier.PUBLIC | Modifier.FINAL));
        holds("one constructor", SnowBalls.class.getDeclaredConstructors().length == 1);
        holds("that is public", SnowBalls.class.getConstructors().length == 1);
    }

    private static void constants() {
        Set<String> open = new TreeSet<>();
        for (Field field : SnowBalls.class.getDeclaredFields()) {
            int how = field.getModifiers();
            if (Modifier.isStatic(how)) holds(field + " is final", Modifier.isFinal(how));
            if (Modifier.isPrivate(how)) continue;
            open.add(field.getName());
            holds(field + " is a constant", how == (Modifier.PUBLIC | Modifier.STATIC | Modifier.FINAL));
        }
        holds("the constants are those of the document", open.equals(new TreeSet<>(Set.of(CONSTANTS))));
    }

    private static void nestedClasses() {
        Set<String> names = new TreeSet<>();
        for (String line : FACE) names.add(line.substring(line.indexOf(' ') + 1, line.indexOf('(')));
        Class<?>[] nested = SnowBalls.class.getDeclaredClasses();
        holds("some twelve classes at most", nested.length < 12);
        for (Class<?> inside : nested) {
            holds(inside + " is static", Modifier.isStatic(inside.getModifiers()));
            holds(inside + " is not public", !Modifier.isPublic(inside.getModifiers()));
            for (Method method : inside.getDeclaredMethods()) {
                holds(method + " has a name of its own", !names.contains(method.getName()));
                holds(method + " has seven parameters at most", method.getParameterCount() <= 7);
            }
        }
        for (Method method : SnowBalls.class.getDeclaredMethods()) {
            if (Modifier.isPrivate(method.getModifiers())) holds(method + " has a name of its own", !names.contains(method.getName()));
        }
    }

    private static void source() throws Exception {
        String source = Files.readString(Path.of("src/main/java/SnowBalls.java"));
        String code = source.replaceAll("(?s)/\\*.*?\\*/", "").replaceAll("//[^\n]*", "");
        for (String word : NOT_IN_SOURCE) holds("no '" + word + "' in the class", !code.contains(word));
        holds("signs 1 to 127", source.chars().allMatch(c -> c > 0 && c < 128));
    }
}
