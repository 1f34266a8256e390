import java.io.IOException;
import java.lang.reflect.Constructor;
import java.lang.reflect.Field;
import java.lang.reflect.Method;
import java.lang.reflect.Modifier;
import java.nio.file.Files;
import java.nio.file.Path;
import java.util.ArrayList;
import java.util.Arrays;
import java.util.HashSet;
import java.util.List;
import java.util.Set;
import java.util.TreeSet;
import java.util.regex.Matcher;
import java.util.regex.Pattern;

/** The document's face, and those rules of LANGUAGE.md that the text and the class can show. */
public final class LanguageTest {
    private static final Path SOURCE = Path.of("src/main/java/RollingLoads.java");

    private static final String[] FACE = {
        "bridge(int, long, long) int", "told(int, int) int", "influence(int, int, int, int, int) long",
        "rule(int, int, int) int", "train(int) int", "axle(int, int, int) int", "axles(int, int, int) int",
        "effect(int, int, int, int, int, int, int) long", "worst(int, int, int, int, int, int) long",
        "check(int, int, int, int, int) int", "limit(int, int, int, int) int", "usual(int) int",
        "total(int, int, int, int, int, int) long", "fails(int, int, int) int", "posted(int, int) int",
        "spread(int, int, int) int", "road(int, int, int, int) int", "route(int, int, int, int, int) int",
        "why(int, int, int, int) int", "wear(int, int, int, int, int) long", "traffic(int, int) int",
        "worn(int, int, int) long", "count(int) int"};

    /** What the document says ahead of which calls, in its order. */
    private static final String[] ORDER = {
        "---- bridges", "bridge", "told", "influence", "rule", "---- trains", "train", "axle", "axles", "effect", "worst",
        "---- checks", "check", "limit", "usual", "total", "fails", "posted", "spread", "---- roads", "road", "route", "why",
        "---- turns", "wear", "traffic", "worn", "count"};

    private static String signature(Method m) {
        List<String> kinds = new ArrayList<>();
        for (Class<?> kind : m.getParameterTypes()) {
            kinds.add(kind.getName());
        }
        return m.getName() + "(" + String.join(", ", kinds) + ") " + m.getReturnType().getName();
    }

    private static void face() {
        Class<?> c = RollingLoads.class;
        Due.holds("public and final", Modifier.isPublic(c.getModifiers()) && Modifier.isFinal(c.getModifiers()));
        Set<String> faced = new TreeSet<>();
        Set<String> names = new HashSet<>();
        for (Method m : c.getDeclaredMethods()) {
            if (Modifier.isPublic(m.getModifiers())) {
                faced.add(signature(m));
                names.add(m.getName());
            } else {
                Due.holds(m + " is private", Modifier.isPrivate(m.getModifiers()));
            }
        }
        Due.holds("the methods of the document, and no other: " + faced, faced.equals(new TreeSet<>(Arrays.asList(FACE))));
        for (Method m : c.getDeclaredMethods()) {
            Due.holds(m + " has its own name", Modifier.isPublic(m.getModifiers()) || !names.contains(m.getName()));
        }
        Constructor<?>[] makers = c.getDeclaredConstructors();
        Due.holds("one public constructor without parameters", makers.length == 1
                && makers[0].getParameterCount() == 0 && Modifier.isPublic(makers[0].getModifiers()));
    }

    private static void order(List<String> lines) {
        Pattern said = Pattern.compile("^    (?:// (---- \\w+)|public (?:int|long) (\\w+)\\(.*)$");
        List<String> found = new ArrayList<>();
        for (String line : lines) {
            Matcher m = said.matcher(line);
            if (m.matches()) {
                found.add(m.group(1) == null ? m.group(2) : m.group(1));
            }
        }
        Due.holds("calls in the document's order, with what it says ahead of them: " + found,
                found.equals(Arrays.asList(ORDER)));
    }

    private static void constants() {
        Due.due("NONE", RollingLoads.NONE, -1);
        Due.due("UNKNOWN", RollingLoads.UNKNOWN, -1001);
        Due.due("OUTSIDE", RollingLoads.OUTSIDE, -1002);
        Due.due("NOT", RollingLoads.NOT, -1003);
        Due.due("FULL", RollingLoads.FULL, -1004);
        int open = 0;
        for (Field f : RollingLoads.class.getDeclaredFields()) {
            boolean isPublic = Modifier.isPublic(f.getModifiers());
            open += isPublic ? 1 : 0;
            Due.holds(f + " is a constant or private", isPublic
                    ? Modifier.isStatic(f.getModifiers()) && Modifier.isFinal(f.getModifiers())
                    : Modifier.isPrivate(f.getModifiers()));
        }
        Due.due("public constants", open, 5);
    }

    private static void fieldsOf(Class<?> c) {
        int own = 0;
        for (Field f : c.getDeclaredFields()) {
            if (Modifier.isStatic(f.getModifiers())) {
                Due.holds(f + " never changes", Modifier.isFinal(f.getModifiers()));
            } else {
                own++;
            }
        }
        Due.holds(c + " has at most 20 fields", own <= 20);
        for (Method m : c.getDeclaredMethods()) {
            Due.holds(m + " takes at most 7", m.getParameterCount() <= 7);
        }
    }

    private static void classes() {
        Class<?>[] inside = RollingLoads.class.getDeclaredClasses();
        Due.holds("at most 12 classes", inside.length < 12);
        fieldsOf(RollingLoads.class);
        for (Class<?> c : inside) {
            int how = c.getModifiers();
            Due.holds(c + " is static", Modifier.isStatic(how));
            Due.holds(c + " is not open", !Modifier.isPublic(how) && !Modifier.isProtected(how));
            fieldsOf(c);
        }
    }

    private static String withoutComments(String text) {
        return text.replaceAll("(?s)/\\*.*?\\*/", "").replaceAll("//[^\n]*", "");
    }

    private static void words(String text) {
        String[] never = {"throw", "throws", "try", "catch", "synchronized", "assert", "->", "::", "@", "package",
            "Exact", "hashCode", "toString", "float", "double", "while (true)", "for (;;)", "\\.SIZE", "transient",
            "volatile", "native", "System\\.(?!arraycopy)", "Random", "Thread", "\\bvar\\b"};
        for (String word : never) {
            String sought = word.matches("[A-Za-z]+") ? "\\b" + word + "\\b" : word;
            if (word.startsWith("while") || word.startsWith("for")) {
                sought = Pattern.quote(word);
            }
            Due.holds("no " + word, !Pattern.compile(sought).matcher(text).find());
        }
        Matcher imports = Pattern.compile("import ([^;]+);").matcher(text);
        while (imports.find()) {
            Due.holds("import of " + imports.group(1), imports.group(1).equals("java.util.Arrays"));
        }
        Matcher library = Pattern.compile("\\b(Math|Long|Integer|Arrays|String|StringBuilder|List|ArrayList)\\.?(\\w*)").matcher(text);
        Set<String> allowed = Set.of("Math.max", "Math.min", "Math.abs", "Long.bitCount", "Arrays.fill", "Arrays");
        while (library.find()) {
            Due.holds("library: " + library.group(), allowed.contains(library.group()) || library.group().equals("Arrays;"));
        }
        for (int i = 0; i < text.length(); i++) {
            if (text.charAt(i) > 255) {
                Due.holds("character " + (int) text.charAt(i), false);
            }
        }
    }

    /** A method begins at its head's line and ends with the brace that stands under the head. */
    private static void lengths(List<String> lines) {
        Pattern head = Pattern.compile("^( +)(public|private|boolean|int|long|void|Check|Bridge|Train)\\b[^;=]*\\) \\{$");
        for (int i = 0; i < lines.size(); i++) {
            Matcher m = head.matcher(lines.get(i));
            if (m.matches()) {
                int end = i;
                while (end < lines.size() && !lines.get(end).equals(m.group(1) + "}")) {
                    end++;
                }
                Due.holds("short: " + lines.get(i).trim(), end - i < 60);
            }
        }
    }

    public static void main(String[] args) throws IOException {
        face();
        constants();
        classes();
        words(withoutComments(Files.readString(SOURCE)));
        lengths(Files.readAllLines(SOURCE));
        order(Files.readAllLines(SOURCE));
        Due.end();
    }
}
