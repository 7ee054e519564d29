import java.io.IOException;
import java.lang.reflect.InvocationTargetException;
import java.lang.reflect.Method;
import java.nio.file.Files;
import java.nio.file.Path;
import java.util.ArrayList;
import java.util.Arrays;
import java.util.Comparator;
import java.util.List;
import java.util.Map;
import java.util.TreeMap;

/**
 * Runs the tests of the document's edges, and holds the sentences that they quote
 * against the document: each is there, and none of the document is left without a test.
 */
public final class EdgesTest {
    private static final Path DOC = Path.of("../shared/DOC.md");
    private static final int PROMISES = 48;
    private static int faults;
    private static int tests;

    public static void main(String[] args) throws Exception {
        Map<Integer, List<String>> quotes = new TreeMap<>();
        for (Edges group : List.of(new TermsEdges(), new ReceiverTermsEdges(), new PaperTermsEdges(), new LineEdges(),
            new ReceiverEdges(), new PaperEdges(), new CheckEdges())) {
            run(group, quotes);
        }
        if (Files.exists(DOC)) {
            holdAgainstDocument(Files.readString(DOC), quotes);
        } else {
            System.out.println("edges: " + DOC + " isn't there, the quotes are not held against it");
        }
        System.out.println("edges: " + tests + " tests, " + faults + " faults");
        System.exit(faults == 0 ? 0 : 1);
    }

    private static void run(Edges group, Map<Integer, List<String>> quotes) throws IllegalAccessException {
        Method[] methods = group.getClass().getDeclaredMethods();
        Arrays.sort(methods, Comparator.comparing(Method::getName));
        for (Method m : methods) {
            Edges.Says says = m.getAnnotation(Edges.Says.class);
            if (says == null) {
                continue;
            }
            tests++;
            quotes.computeIfAbsent(says.promise(), p -> new ArrayList<>()).addAll(List.of(says.value()));
            try {
                m.invoke(group);
            } catch (InvocationTargetException e) {
                faults++;
                System.out.println(group.getClass().getName() + "." + m.getName() + " threw " + e.getCause());
            }
        }
        faults += group.faults();
    }

    private static void holdAgainstDocument(String doc, Map<Integer, List<String>> quotes) {
        for (int promise = 0; promise <= PROMISES; promise++) {
            String text = sentencesOf(doc, promise);
            boolean[] isQuoted = new boolean[text.length()];
            for (String quote : quotes.getOrDefault(promise, List.of())) {
                int from = text.indexOf(quote);
                if (from < 0) {
                    tell("promise " + promise + " of the document doesn't say: " + quote);
                } else {
                    Arrays.fill(isQuoted, from, from + quote.length(), true);
                }
            }
            tellUnquoted(promise, text, isQuoted);
        }
    }

    private static void tell(String fault) {
        faults++;
        System.out.println("edges: " + fault);
    }

    /** One part of the document in one row, without headings, marks and the call's shape. */
    private static String sentencesOf(String doc, int promise) {
        String part = promise == 0
            ? between(doc, "An object is used", "## The public face") + between(doc, "## Terms", "## Promise 1:")
            : between(doc, "## Promise " + promise + ":", promise == PROMISES ? "## Not promised" : "## Promise " + (promise + 1) + ":");
        return part
            .replaceAll("(?m)^## .*$", "")
            .replaceAll("(?m)^```.*$", "")
            .replaceAll("(?m)^Ahead of the calls .*$", "")
            .replaceAll("(?m)^`[^`]*`: ", "")
            .replaceAll("==== [23]\\.", "")
            .replaceAll("\\s+", " ")
            .trim();
    }

    private static String between(String doc, String from, String to) {
        int start = doc.indexOf(from);
        int end = doc.indexOf(to);
        return start < 0 || end < start ? "" : doc.substring(start, end);
    }

    private static void tellUnquoted(int promise, String text, boolean[] isQuoted) {
        int from = 0;
        while (from < text.length()) {
            int to = from;
            while (to < text.length() && isQuoted[to] == isQuoted[from]) {
                to++;
            }
            String part = text.substring(from, to).trim();
            if (!isQuoted[from] && !part.isEmpty()) {
                tell("of promise " + promise + " no test quotes: " + part);
            }
            from = to;
        }
    }
}
