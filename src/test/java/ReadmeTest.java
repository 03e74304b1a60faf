import java.io.IOException;
import java.lang.reflect.Method;
import java.lang.reflect.Modifier;
import java.nio.file.Files;
import java.nio.file.Path;
import java.util.Map;
import java.util.Set;
import java.util.TreeSet;
import java.util.regex.Matcher;
import java.util.regex.Pattern;

/**
 * Makes the calls of README.md's example on one object and compares the answers that stand
 * behind them, so that the example stays true; it must show every call and every refusal.
 */
public final class ReadmeTest {
    private static final Pattern CALL = Pattern.compile("x\\.(\\w+)\\((-?\\d*)\\);\\s*// (-?\\d+|[A-Z]+)\\b.*");
    private static final Map<String, Integer> REFUSALS =
            Map.of("BAD", BlockCoder.BAD, "FULL", BlockCoder.FULL, "NONE", BlockCoder.NONE);
    private static final Due DUE = new Due();

    public static void main(String[] args) throws IOException, ReflectiveOperationException {
        DUE.in("README.md");
        BlockCoder x = new BlockCoder();
        Set<String> shown = new TreeSet<>();
        for (String line : Files.readAllLines(Path.of("README.md"))) {
            if (line.startsWith("x.")) {
                Matcher call = CALL.matcher(line);
                DUE.that("a call and its answer in: " + line, call.matches());
                if (call.matches()) {
                    shown.add(call.group(1));
                    shown.add(call.group(3));
                    DUE.answer(line, ask(x, call.group(1), call.group(2)), number(call.group(3)));
                }
            }
        }
        for (Method method : BlockCoder.class.getDeclaredMethods()) {
            DUE.that(method.getName() + " is shown",
                    !Modifier.isPublic(method.getModifiers()) || shown.contains(method.getName()));
        }
        DUE.that("every refusal is shown", shown.containsAll(REFUSALS.keySet()));
        DUE.finish();
    }

    private static int ask(BlockCoder x, String name, String argument) throws ReflectiveOperationException {
        if (argument.isEmpty()) {
            return (int) BlockCoder.class.getMethod(name).invoke(x);
        }
        return (int) BlockCoder.class.getMethod(name, int.class).invoke(x, Integer.parseInt(argument));
    }

    private static int number(String answer) {
        return REFUSALS.containsKey(answer) ? REFUSALS.get(answer) : Integer.parseInt(answer);
    }
}
