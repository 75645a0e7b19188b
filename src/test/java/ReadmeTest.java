import java.io.IOException;
import java.lang.reflect.InvocationTargetException;
import java.lang.reflect.Method;
import java.lang.reflect.Modifier;
import java.nio.file.Files;
import java.nio.file.Path;
import java.util.ArrayList;
import java.util.List;
import java.util.Set;
import java.util.TreeSet;
import java.util.regex.Matcher;
import java.util.regex.Pattern;

/** The calls that README.md shows, done in its order: each must answer what stands behind it there. */
public final class ReadmeTest {
    private static final String NEW_OBJECT = "SeedBench bench = new SeedBench();";
    private static final Pattern CALL = Pattern.compile(
            "bench\\.(\\w+)\\(([^()]*)\\);\\s+// (true|false|NONE|-?\\d+)(?:: .+)?");

    private final List<String> faults = new ArrayList<>();
    private final Set<String> shown = new TreeSet<>();
    private SeedBench bench;
    private int calls;

    public static void main(String[] args) throws IOException {
        Check check = new Check();
        // A reader that finds no fault anywhere would pass any README, so it is tried on wrong ones first.
        faultsFound(check, "bench.count(0);  // 1: places", 0);
        faultsFound(check, "bench.count(0);  // 2: places", 1);
        faultsFound(check, "bench.table(1, 0);  // false", 1);
        faultsFound(check, "bench.table(1, 0);  // true", 0);
        faultsFound(check, "bench.table(1, 0);  // 1", 1);
        faultsFound(check, "bench.begin();  // 0", 1);
        faultsFound(check, "bench.begin();  // NONE", 0);
        faultsFound(check, "bench.begin();", 1);
        faultsFound(check, "bench.begin();  // the table is good", 1);
        faultsFound(check, "bench.start();  // 0", 1);
        faultsFound(check, "bench.count();  // 1", 1);
        faultsFound(check, "bench.count(x);  // 1", 1);
        faultsFound(check, "int places = bench.count(0);  // 1", 1);

        ReadmeTest test = new ReadmeTest();
        test.read(Files.readString(Path.of(System.getProperty("seedbench.readme", "README.md"))));
        for (String fault : test.faults) {
            System.out.println("README.md: " + fault);
        }
        check.due("faults of README.md", test.faults.size(), 0);
        for (Method method : SeedBench.class.getDeclaredMethods()) {
            if (Modifier.isPublic(method.getModifiers())) {
                check.due("README.md shows " + method.getName(), test.shown.contains(method.getName()), true);
            }
        }
        System.out.println("README.md shows " + test.calls + " calls");
        check.end();
    }

    private static void faultsFound(Check check, String line, int want) {
        ReadmeTest test = new ReadmeTest();
        test.read("```java\n" + NEW_OBJECT + "\n" + line + "\n```\n");
        check.due("faults found in " + line, test.faults.size(), want);
    }

    /** Does what stands between ```java and ```; each such piece begins with an object of its own. */
    private void read(String text) {
        boolean inside = false;
        for (String line : text.split("\n")) {
            if (line.startsWith("```")) {
                inside = line.equals("```java");
                bench = null;
            } else if (inside && line.equals(NEW_OBJECT)) {
                bench = new SeedBench();
            } else if (inside && !line.isBlank()) {
                oneCall(line);
            }
        }
    }

    private void oneCall(String line) {
        Matcher call = CALL.matcher(line);
        if (bench == null || !call.matches()) {
            faults.add("no call with its answer: " + line);
            return;
        }
        try {
            Object got = answer(call.group(1), call.group(2));
            calls++;
            shown.add(call.group(1));
            if (!isTold(got, call.group(3))) {
                faults.add(line + " -- answered " + got);
            }
        } catch (ReflectiveOperationException | NumberFormatException wrongCall) {
            faults.add("can't be called: " + line);
        }
    }

    private Object answer(String name, String between) throws ReflectiveOperationException {
        String[] texts = between.isEmpty() ? new String[0] : between.split(", ");
        Class<?>[] types = new Class<?>[texts.length];
        Object[] numbers = new Object[texts.length];
        for (int i = 0; i < texts.length; i++) {
            types[i] = int.class;
            numbers[i] = texts[i].equals("SeedBench.NONE") ? SeedBench.NONE : Integer.parseInt(texts[i]);
        }
        try {
            return SeedBench.class.getMethod(name, types).invoke(bench, numbers);
        } catch (InvocationTargetException thrown) {
            throw new IllegalStateException(name + "(" + between + ") threw", thrown.getCause());
        }
    }

    private static boolean isTold(Object got, String answer) {
        String told = answer.equals("NONE") ? String.valueOf(SeedBench.NONE) : answer;
        return got.toString().equals(told);
    }
}
