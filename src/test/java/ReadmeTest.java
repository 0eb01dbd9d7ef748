import java.lang.reflect.Method;
import java.lang.reflect.Modifier;
import java.nio.file.Files;
import java.nio.file.Path;
import java.util.Arrays;
import java.util.Set;
import java.util.TreeSet;
import java.util.regex.Matcher;
import java.util.regex.Pattern;

/** README.md's example answers what it says, and every call and every test of the project is named there. */
public final class ReadmeTest {
    private static final Pattern EXAMPLE = Pattern.compile("(?s)```java\n(.*?)```");
    private static final Pattern CALL = Pattern.compile("s\\.(\\w+)\\(([-0-9, ]+)\\);\\s+// (-?\\d+|true|false|BAD_ARG)(: .+)?");
    private static final Pattern ROW = Pattern.compile("(?m)^\\| `(\\w+)\\(([a-z, ]+)\\)` \\| [^|]+ \\|$");

    public static void main(String[] args) throws Exception {
        String readme = Files.readString(Path.of("README.md"));
        Check.test("the example's calls answer what stands behind them", () -> example(readme));
        Check.test("the list of calls is the class's", () -> rows(readme));
        Check.test("every test of the project is named", () -> tests(readme));
        Check.end();
    }

    private static Set<String> publicCalls() {
        Set<String> names = new TreeSet<>();
        for (Method m : TruthSpectrum.class.getDeclaredMethods()) {
            if (Modifier.isPublic(m.getModifiers())) {
                names.add(m.getName() + "/" + m.getParameterCount());
            }
        }
        return names;
    }

    private static void example(String readme) {
        Matcher block = EXAMPLE.matcher(readme);
        Check.due("there is an example", block.find(), true);
        TruthSpectrum s = new TruthSpectrum();
        Set<String> used = new TreeSet<>();
        for (String line : block.group(1).split("\n")) {
            if (line.isBlank() || line.equals("TruthSpectrum s = new TruthSpectrum();")) {
                continue;
            }
            Matcher call = CALL.matcher(line);
            boolean read = call.matches();
            Check.due("'" + line + "' can be read", read, true);
            if (read) {
                int[] arguments = Arrays.stream(call.group(2).split(", ")).mapToInt(Integer::parseInt).toArray();
                used.add(call.group(1) + "/" + arguments.length);
                Check.due(line, answer(s, call.group(1), arguments), number(call.group(3)));
            }
        }
        Check.due("the example has all calls of the class", used.equals(publicCalls()), true);
    }

    private static long answer(TruthSpectrum s, String name, int[] arguments) {
        Class<?>[] types = new Class<?>[arguments.length];
        Arrays.fill(types, int.class);
        Object[] values = Arrays.stream(arguments).boxed().toArray();
        try {
            Object answer = TruthSpectrum.class.getMethod(name, types).invoke(s, values);
            return number(answer.toString());
        } catch (ReflectiveOperationException missing) {
            throw new IllegalStateException(missing);
        }
    }

    /** A boolean counts 1 or 0. */
    private static long number(String text) {
        return switch (text) {
            case "true" -> 1L;
            case "false" -> 0L;
            case "BAD_ARG" -> TruthSpectrum.BAD_ARG;
            default -> Long.parseLong(text);
        };
    }

    private static void rows(String readme) {
        Set<String> listed = new TreeSet<>();
        Matcher row = ROW.matcher(readme);
        while (row.find()) {
            listed.add(row.group(1) + "/" + row.group(2).split(", ").length);
        }
        for (String call : publicCalls()) {
            Check.due(call + " is listed", listed.contains(call), true);
        }
        Check.due("calls listed", listed.size(), publicCalls().size());
    }

    private static void tests(String readme) {
        for (String file : Path.of("src/test/java").toFile().list()) {
            if (file.endsWith("Test.java")) {
                Check.due(file + " is named", readme.contains("`src/test/java/" + file + "`"), true);
            }
        }
    }
}
