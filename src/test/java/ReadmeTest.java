import java.io.IOException;
import java.lang.reflect.InvocationTargetException;
import java.lang.reflect.Method;
import java.nio.file.Files;
import java.nio.file.Path;
import java.util.Arrays;
import java.util.List;
import java.util.Set;
import java.util.TreeSet;
import java.util.regex.Matcher;
import java.util.regex.Pattern;

/** README.md shows calls with their answers, and names tests: both are so. */
public final class ReadmeTest {
    private static final Path README = Path.of("README.md");
    private static final Path TESTS = Path.of("src/test/java");
    private static final Pattern BLOCK = Pattern.compile("(?s)```java\n(.*?)```");
    private static final Pattern CALL = Pattern.compile("finder\\.(\\w+)\\(([^)]*)\\); +// (-?\\d+)(:.*)?");
    private static final String MADE = "CellFinder finder = new CellFinder();";
    private static int wrong;
    private static int calls;

    private static void tell(String fault) {
        wrong++;
        System.out.println("readme: " + fault);
    }

    public static void main(String[] args) throws Exception {
        String page = Files.readString(README);
        Matcher blocks = BLOCK.matcher(page);
        while (blocks.find()) {
            run(blocks.group(1));
        }
        if (calls == 0) {
            tell("shows no call");
        }
        namesOfTests(page);
        System.out.println("readme: " + calls + " calls shown, " + wrong + " faults");
        System.exit(wrong == 0 ? 0 : 1);
    }

    private static void run(String block) throws ReflectiveOperationException {
        CellFinder finder = null;
        for (String line : block.split("\n")) {
            Matcher call = CALL.matcher(line);
            if (line.equals(MADE)) {
                finder = new CellFinder();
            } else if (finder != null && call.matches()) {
                calls++;
                long got = answer(finder, call.group(1), call.group(2));
                if (got != Long.parseLong(call.group(3))) {
                    tell(line + " answers " + got);
                }
            } else {
                tell("a line that is no call with its answer: " + line);
            }
        }
    }

    private static long answer(CellFinder finder, String name, String numbers) throws ReflectiveOperationException {
        Object[] given = numbers.isEmpty()
            ? new Object[0]
            : Arrays.stream(numbers.split(", ")).map(Integer::decode).toArray();
        Class<?>[] types = new Class<?>[given.length];
        Arrays.fill(types, int.class);
        Method method = CellFinder.class.getMethod(name, types);
        try {
            return ((Number) method.invoke(finder, given)).longValue();
        } catch (InvocationTargetException e) {
            tell(name + " threw " + e.getCause());
            return Long.MIN_VALUE;
        }
    }

    /** Each test of the project is told of, and each that is told of is there. */
    private static void namesOfTests(String page) throws IOException {
        Set<String> there = new TreeSet<>();
        try (var files = Files.list(TESTS)) {
            files.forEach(f -> there.add(f.getFileName().toString().replace(".java", "")));
        }
        for (String name : there) {
            if (name.endsWith("Test") && !page.contains("- `" + name + "`:")) {
                tell("doesn't tell of " + name);
            }
        }
        Matcher named = Pattern.compile("`(\\w+(?:Test|Edges|Finder))`").matcher(page);
        while (named.find()) {
            if (!there.contains(named.group(1))) {
                tell("names " + named.group(1) + ", which isn't there");
            }
        }
        for (String path : List.of(".ci/run", "src/main/java/CellFinder.java", "../shared/DOC.md", "../shared/LANGUAGE.md", "../shared/tests")) {
            if (!page.contains(path) || !Files.exists(Path.of(path))) {
                tell("names no " + path + ", or it isn't there");
            }
        }
    }
}
