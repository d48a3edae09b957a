import java.io.IOException;
import java.lang.reflect.Field;
import java.lang.reflect.Method;
import java.lang.reflect.Modifier;
import java.nio.file.Files;
import java.nio.file.Path;
import java.util.List;
import java.util.regex.Matcher;
import java.util.regex.Pattern;

/**
 * Makes the calls of README.md's example, and compares each answer with the one told beside it; and
 * sees to it that README.md names the whole public face.
 */
public final class ReadmeTest {
    private static final Pattern CALL = Pattern.compile("x\\.(\\w+)\\(([^)]*)\\);\\s*// (.*)");

    private static int wrong = 0;

    private static void fail(String what) {
        wrong++;
        System.out.println(what);
    }

    public static void main(String[] args) throws IOException, ReflectiveOperationException {
        List<String> lines = Files.readAllLines(Path.of("README.md"));
        int calls = runExample(lines);
        if (calls < 15) {
            fail("only " + calls + " calls were found in the example");
        }
        checkNames(String.join("\n", lines));
        System.out.println(wrong == 0 ? "the example's answers are as due" : wrong + " things are not as due");
        if (wrong != 0) {
            System.exit(1);
        }
    }

    private static int runExample(List<String> lines) throws ReflectiveOperationException {
        FairRuns x = new FairRuns();
        int calls = 0;
        int begin = lines.indexOf("```java") + 1;
        for (int i = begin; begin > 0 && i < lines.size() && !lines.get(i).equals("```"); i++) {
            Matcher line = CALL.matcher(lines.get(i));
            if (line.matches()) {
                checkCall(x, line);
                calls++;
            } else if (!lines.get(i).equals("FairRuns x = new FairRuns();")) {
                fail("a line that is no call: " + lines.get(i));
            }
        }
        return calls;
    }

    private static void checkCall(FairRuns x, Matcher line) throws ReflectiveOperationException {
        String[] texts = line.group(2).isEmpty() ? new String[0] : line.group(2).split(",");
        Class<?>[] types = new Class<?>[texts.length];
        Object[] numbers = new Object[texts.length];
        for (int i = 0; i < texts.length; i++) {
            types[i] = int.class;
            numbers[i] = Integer.valueOf(texts[i].trim());
        }
        Method method = FairRuns.class.getMethod(line.group(1), types);
        Object got = method.invoke(x, numbers);
        boolean answers = method.getReturnType() != void.class;
        if (answers && !line.group(3).startsWith(got + ": ")) {
            fail(line.group() + ": the answer was " + got);
        }
    }

    private static void checkNames(String text) {
        for (Method m : FairRuns.class.getDeclaredMethods()) {
            if (Modifier.isPublic(m.getModifiers()) && !text.contains("| `" + m.getName() + "(")) {
                fail("README.md does not tell of " + m.getName());
            }
        }
        for (Field f : FairRuns.class.getFields()) {
            if (!text.contains("| `" + f.getName() + "` (")) {
                fail("README.md does not tell of " + f.getName());
            }
        }
    }
}
