import java.io.IOException;
import java.lang.reflect.Method;
import java.lang.reflect.Modifier;
import java.nio.charset.StandardCharsets;
import java.nio.file.Files;
import java.nio.file.Path;
import java.util.regex.Matcher;
import java.util.regex.Pattern;

/** README.md is right: its example answers as it says there, and it names each call of the class. */
public final class ReadmeTest {
    private static final Pattern TYPED = Pattern.compile("type\\(x, \"(.*)\"\\);");
    private static final Pattern CALLED = Pattern.compile("x\\.(\\w+)\\((-?\\d+)?\\); +// (-?\\d+)(:.*)?");
    private static int wrong = 0;
    private static int answers = 0;

    public static void main(String[] args) throws IOException, ReflectiveOperationException {
        String readme = Files.readString(Path.of("README.md"), StandardCharsets.US_ASCII);
        example(readme);
        names(readme);
        System.out.println(wrong == 0 ? "README.md is right" : wrong + " faults of README.md");
        if (wrong != 0) {
            System.exit(1);
        }
    }

    private static void fail(String what) {
        wrong++;
        System.out.println(what);
    }

    private static void example(String readme) throws ReflectiveOperationException {
        int from = readme.indexOf("AsARule x = new AsARule();");
        int to = readme.indexOf("```", Math.max(from, 0));
        if (from < 0 || to < 0) {
            fail("there is no example");
            return;
        }
        AsARule x = new AsARule();
        String[] lines = readme.substring(from, to).split("\n");
        for (int i = 1; i < lines.length; i++) {
            oneLine(x, lines[i]);
        }
        if (answers < 20) {
            fail("the example is gone");
        }
    }

    private static void oneLine(AsARule x, String line) throws ReflectiveOperationException {
        Matcher typed = TYPED.matcher(line);
        Matcher called = CALLED.matcher(line);
        if (typed.matches()) {
            for (char sign : typed.group(1).toCharArray()) {
                x.type(sign, 1);
            }
        } else if (called.matches()) {
            long got = call(x, called.group(1), called.group(2));
            answers++;
            if (got != Long.parseLong(called.group(3))) {
                fail(line + " answered " + got);
            }
        } else if (!line.isEmpty()) {
            fail("neither typed nor called: " + line);
        }
    }

    private static long call(AsARule x, String name, String number) throws ReflectiveOperationException {
        Object answer = number == null ? AsARule.class.getMethod(name).invoke(x)
            : AsARule.class.getMethod(name, int.class).invoke(x, Integer.parseInt(number));
        return ((Number) answer).longValue();
    }

    private static void names(String readme) {
        for (Method m : AsARule.class.getDeclaredMethods()) {
            if (Modifier.isPublic(m.getModifiers()) && !Pattern.compile("(?m)^\\|.*`" + m.getName() + "\\(").matcher(readme).find()) {
                fail("README.md does not name " + m.getName());
            }
        }
    }
}
