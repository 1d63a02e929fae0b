import java.lang.reflect.InvocationTargetException;
import java.lang.reflect.Method;
import java.nio.file.Files;
import java.nio.file.Path;
import java.util.Arrays;
import java.util.regex.Matcher;
import java.util.regex.Pattern;

/** What README.md says that a few calls answer, one behind the other on one office, holds. */
public final class LoadCounterReadmeTest {
    private static final Pattern CALL = Pattern.compile("office\\.(\\w+)\\(([^)]*)\\);\\s*// (\\w+|-\\d+).*");

    private static Method named(String name) {
        for (Method m : LoadCounter.class.getDeclaredMethods()) {
            if (m.getName().equals(name)) {
                return m;
            }
        }
        throw new IllegalArgumentException("there is no " + name);
    }

    private static String answer(LoadCounter office, String name, String numbers) throws Exception {
        Object[] arguments = numbers.isEmpty() ? new Object[0]
            : Arrays.stream(numbers.split(", ")).map(Integer::valueOf).toArray();
        try {
            return String.valueOf(named(name).invoke(office, arguments));
        } catch (InvocationTargetException e) {
            return e.getCause().getClass().getSimpleName();
        }
    }

    public static void main(String[] args) throws Exception {
        LoadCounter office = new LoadCounter();
        int passed = 0;
        int failed = 0;
        for (String line : Files.readAllLines(Path.of("README.md"))) {
            Matcher call = CALL.matcher(line);
            if (!line.startsWith("office.")) {
                continue;
            }
            String got = call.matches() ? answer(office, call.group(1), call.group(2)) : "nothing that can be read";
            if (call.matches() && got.equals(call.group(3))) {
                passed++;
            } else {
                failed++;
                System.out.println("README.md, \"" + line + "\": it answered " + got);
            }
        }
        System.out.println(passed + " passed, " + failed + " failed");
        if (failed != 0 || passed == 0) {
            System.exit(1);
        }
    }
}
