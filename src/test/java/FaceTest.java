import java.io.IOException;
import java.lang.reflect.Constructor;
import java.lang.reflect.Field;
import java.lang.reflect.Method;
import java.lang.reflect.Modifier;
import java.nio.file.Files;
import java.nio.file.Path;
import java.util.ArrayList;
import java.util.List;
import java.util.Set;
import java.util.TreeSet;
import java.util.regex.Matcher;
import java.util.regex.Pattern;

/** The document's face and what of LANGUAGE.md can be seen without running the class. */
public final class FaceTest {
    private static final String FACE = "feed iiiii,bits ii,send ii,rest i,flip i,drop ii,slip iii,disturb iiii,bit i,empty ,"
        + "terms ii,take i,fresh ,stage ii,stages ii,state i,count i,delivered ii,load ii,field ii,judged ii,turn ii,lost ,"
        + "look i,until i,would ii,worst ,regained i,spread ii,rights iii,phase i,tuned i,starts i,check i,syndrome ii,"
        + "single i,latest i,pairs ii,nearest ii,mending iii,half ii,told i";
    private static final String LONG_FACE = "words i,cases ii,unseen ii,odds iiii,mean iii";
    private static final List<String> FORBIDDEN = List.of(
        "->", "::", "Double.", "Float.", "StrictMath", "System.out", "System.nanoTime", "System.currentTimeMillis", "Random",
        "Thread", "synchronized", "assert ", "finally", "catch", "throw ", "Exact(", "package ", "toString(", "hashCode(",
        ".equals(", "record ", "protected ", "double[]", "static {", "NaN", "instanceof", "var ", "stream(");
    private static final Path DOC = Path.of("../shared/DOC.md");
    private static int wrong;

    private static void due(String what, boolean holds) {
        if (!holds) {
            wrong++;
            System.out.println("face: " + what);
        }
    }

    public static void main(String[] args) throws Exception {
        members();
        String source = Files.readString(Path.of(args.length > 0 ? args[0] : "src/main/java/CellFinder.java"));
        block(source);
        words(source);
        lengths(source);
        sizes(CellFinder.class);
        for (Class<?> c : CellFinder.class.getDeclaredClasses()) {
            sizes(c);
            due(c.getName() + " is private and static",
                Modifier.isPrivate(c.getModifiers()) && Modifier.isStatic(c.getModifiers()));
        }
        due("at most twelve classes", CellFinder.class.getDeclaredClasses().length < 12);
        System.out.println(wrong == 0 ? "the face is the document's" : wrong + " faults of the face");
        System.exit(wrong == 0 ? 0 : 1);
    }

    private static String shapeOf(Method m) {
        return m.getName() + " " + "i".repeat(m.getParameterCount());
    }

    private static void members() throws Exception {
        Class<?> c = CellFinder.class;
        due("public and final", Modifier.isPublic(c.getModifiers()) && Modifier.isFinal(c.getModifiers()));
        Set<String> due = new TreeSet<>(List.of((FACE + "," + LONG_FACE).split(",")));
        Set<String> names = new TreeSet<>();
        Set<String> seen = new TreeSet<>();
        for (Method m : c.getDeclaredMethods()) {
            if (!Modifier.isPublic(m.getModifiers())) {
                due(m + " is private", Modifier.isPrivate(m.getModifiers()));
                continue;
            }
            seen.add(shapeOf(m));
            names.add(m.getName());
            boolean isLong = List.of(LONG_FACE.split(",")).contains(shapeOf(m));
            due(m + " answers its type", m.getReturnType() == (isLong ? long.class : int.class));
            for (Class<?> p : m.getParameterTypes()) {
                due(m + " takes ints", p == int.class);
            }
        }
        due("methods " + seen, seen.equals(due));
        for (Class<?> inner : c.getDeclaredClasses()) {
            for (Method m : inner.getDeclaredMethods()) {
                due(m + " bears a name of the face", !names.contains(m.getName()));
                due(m + " takes at most seven", m.getParameterCount() <= 7);
            }
        }
        for (Method m : c.getDeclaredMethods()) {
            due(m + " bears a name of the face", Modifier.isPublic(m.getModifiers()) || !names.contains(m.getName()));
        }
        for (Field f : c.getDeclaredFields()) {
            due(f + " is private", f.getName().equals("NONE") ? Modifier.isPublic(f.getModifiers()) : Modifier.isPrivate(f.getModifiers()));
            due(f + " is final", Modifier.isFinal(f.getModifiers()));
        }
        Constructor<?>[] made = c.getDeclaredConstructors();
        due("one constructor", made.length == 1 && made[0].getParameterCount() == 0 && Modifier.isPublic(made[0].getModifiers()));
        due("NONE", CellFinder.NONE == -1);
    }

    /** What is public in the class is what the document's code block prints, name by name and one behind the other. */
    private static void block(String source) throws IOException {
        String doc = Files.readString(DOC);
        int from = doc.indexOf("```java\n") + "```java\n".length();
        String printed = doc.substring(from, doc.indexOf("```", from));
        due("the document's block: " + publicLines(printed), publicLines(printed).equals(publicLines(source)));
    }

    private static List<String> publicLines(String text) {
        List<String> lines = new ArrayList<>();
        for (String line : text.split("\n")) {
            if (line.matches("(    )?public .*")) {
                lines.add(line.trim().replaceAll(" ?[{;]$", ""));
            }
        }
        return lines;
    }

    private static void sizes(Class<?> c) {
        int own = 0;
        for (Field f : c.getDeclaredFields()) {
            if (Modifier.isStatic(f.getModifiers())) {
                due(f + " is final", Modifier.isFinal(f.getModifiers()));
                Class<?> t = f.getType();
                due(f + " is a constant", t == int.class || t == long.class || t == int[].class || t == long[].class);
            } else {
                own++;
            }
        }
        due(c.getName() + " has some twenty fields", own <= 20);
    }

    private static void words(String source) {
        String code = source.replaceAll("(?s)/\\*.*?\\*/", "").replaceAll("//[^\n]*", "");
        for (String word : FORBIDDEN) {
            due("holds " + word, !code.contains(word));
        }
        Matcher imports = Pattern.compile("import ([^;]+);").matcher(code);
        while (imports.find()) {
            due("imports " + imports.group(1), imports.group(1).equals("java.util.Arrays"));
        }
        // all rows are made with the object: a call makes nothing
        for (String line : code.split("\n")) {
            boolean isMade = line.matches("\\s*(private )?final .* = new .*;") || line.matches("        \\w+ = new .*;")
                || line.equals("            entries = new int[3 * this.kept];")
                || line.matches("\\s*private static final \\w+\\[\\] \\w+ = .*");
            due("makes an object in a call: " + line, !line.contains("new ") || isMade);
        }
        for (char sign : source.toCharArray()) {
            due("sign " + (int) sign, sign < 128);
        }
    }

    private static void lengths(String source) {
        String[] lines = source.split("\n");
        for (String indent : List.of("    ", "        ")) {
            int start = -1;
            for (int i = 0; i < lines.length; i++) {
                if (lines[i].matches(indent + "[^ ].*\\) \\{")) {
                    start = i;
                }
                if (start >= 0 && lines[i].equals(indent + "}")) {
                    due("a method of more than sixty lines ends at line " + (i + 1), i - start < 60);
                    start = -1;
                }
            }
        }
    }
}
