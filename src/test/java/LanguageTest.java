import java.io.IOException;
import java.lang.reflect.Constructor;
import java.lang.reflect.Field;
import java.lang.reflect.Method;
import java.lang.reflect.Modifier;
import java.nio.file.Files;
import java.nio.file.Path;
import java.util.ArrayList;
import java.util.HashSet;
import java.util.List;
import java.util.Map;
import java.util.Set;
import java.util.TreeMap;
import java.util.TreeSet;
import java.util.regex.Matcher;
import java.util.regex.Pattern;

/** What of the rules of LANGUAGE.md, and of the document's face, can be seen by a look at the program. */
public final class LanguageTest {
    private static final String SOURCE = "src/main/java/RankStairs.java";
    private static final Path DOCUMENT = Path.of("../shared/DOC.md");
    private static final String FACE = "int feed(int) int end(int) int text() int fault() int rule(int) int step(int,int)"
        + " int lodger(int,int) int age(int,int) int wear(int,int) int mend(int) int rank(int,int) int load(int,int)"
        + " int move(int,int) int law(int,int) int year() int climb(int,int) int ways(int) int smooth(int,int)"
        + " int homes() int must(int) int day(int) int ahead(int,int) int breaks(int) int stuck(int) int gap(int)"
        + " int legs(int) int hold(int) int best(int) int lodge(int) long odds(int,int,int) long mean(int,int)"
        + " int see(int,int) int forget(int) int fits() int floors(int) int drift(int,int,int) int keep(int)"
        + " int back(int) int sheet(int,int,int) int lay(int,int,int) int read(int,int,int,int) int torn() int count(int)";
    private static final Set<String> LIBRARY = Set.of("Arrays.fill", "System.arraycopy", "Math.min", "Math.max", "Math.abs",
        "Integer.bitCount", "Integer.numberOfTrailingZeros");
    private static int wrong = 0;

    private static void hold(boolean so, String what) {
        if (!so) {
            wrong++;
            System.out.println("not so: " + what);
        }
    }

    public static void main(String[] args) throws IOException {
        String source = Files.readString(Path.of(SOURCE));
        String code = source.replaceAll("(?s)/\\*.*?\\*/", " ").replaceAll("//[^\n]*", " ").replaceAll("\"[^\"]*\"", "\"\"");
        face();
        documentsFace();
        words(code);
        classes();
        lengths(source);
        depths(code);
        System.out.println(wrong == 0 ? "the program keeps to the language" : "the program leaves the language");
        if (wrong != 0) {
            System.exit(1);
        }
    }

    private static void face() {
        Class<?> c = RankStairs.class;
        hold(Modifier.isPublic(c.getModifiers()) && Modifier.isFinal(c.getModifiers()), "rule 1: public and final");
        Set<String> shown = new TreeSet<>();
        Set<String> names = new HashSet<>();
        for (Method m : c.getDeclaredMethods()) {
            if (Modifier.isPublic(m.getModifiers())) {
                List<String> types = new ArrayList<>();
                for (Class<?> t : m.getParameterTypes()) {
                    types.add(t.getName());
                }
                shown.add(m.getReturnType() + " " + m.getName() + "(" + String.join(",", types) + ")");
                names.add(m.getName());
                hold(!Modifier.isStatic(m.getModifiers()), "the face: not static: " + m.getName());
            }
        }
        Set<String> due = new TreeSet<>(List.of(FACE.split("(?<=\\)) ")));
        hold(shown.equals(due), "the face: " + shown);
        for (Method m : c.getDeclaredMethods()) {
            hold(Modifier.isPublic(m.getModifiers()) || (Modifier.isPrivate(m.getModifiers()) && !names.contains(m.getName())),
                "rule 1: " + m.getName());
        }
        for (Field f : c.getDeclaredFields()) {
            boolean constant = Set.of("BAD", "STATE", "FULL", "NONE").contains(f.getName());
            hold(constant ? Modifier.isPublic(f.getModifiers()) : Modifier.isPrivate(f.getModifiers()),
                "rule 1: " + f.getName());
        }
        Constructor<?>[] made = c.getDeclaredConstructors();
        hold(made.length == 1 && made[0].getParameterCount() == 0 && Modifier.isPublic(made[0].getModifiers()),
            "the face: the constructor");
    }

    /** The face that is tested is the one that the document has. */
    private static void documentsFace() throws IOException {
        if (!Files.exists(DOCUMENT)) {
            System.out.println("no document at " + DOCUMENT + ": its face is not looked up");
            return;
        }
        Set<String> told = new TreeSet<>();
        Matcher call = Pattern.compile("(?m)^    public (int|long) (\\w+\\(.*\\));$").matcher(Files.readString(DOCUMENT));
        while (call.find()) {
            told.add(call.group(1) + " " + call.group(2).replaceAll("int \\w+", "int").replace(", ", ","));
        }
        hold(told.equals(new TreeSet<>(List.of(FACE.split("(?<=\\)) ")))), "the document's face: " + told);
    }

    private static void words(String code) {
        for (String word : List.of("throw", "throws", "try", "catch", "synchronized", "assert", "package", "protected",
                "record", "volatile", "native", "float", "double", "Object", "String\\.format", "->", "::")) {
            String bounded = word.startsWith("-") || word.startsWith(":") ? word : "\\b" + word + "\\b";
            hold(!Pattern.compile(bounded).matcher(code).find(), "rules 2, 3, 6: there is a " + word);
        }
        Matcher imports = Pattern.compile("import ([^;]*);").matcher(code);
        while (imports.find()) {
            hold(imports.group(1).equals("java.util.Arrays"), "rule 4: " + imports.group());
        }
        Matcher library = Pattern.compile("\\b(Arrays|System|Math|Integer|Long|List|StringBuilder)\\.\\w+").matcher(code);
        while (library.find()) {
            hold(LIBRARY.contains(library.group()), "rule 4: " + library.group());
        }
        hold(!Pattern.compile("static (?!final|class|int|long|boolean|void|String)").matcher(code).find(), "rule 5");
        // Rows are made with the object that has them: all calls of a run live in one room.
        Matcher made = Pattern.compile("(?m)^(.*)\\bnew \\w+").matcher(code);
        while (made.find()) {
            hold(made.group(1).contains("final ") || made.group(1).trim().matches("(images|sheets)\\[k\\] ="),
                "rule 12: made by a call: " + made.group());
        }
    }

    private static void classes() {
        Class<?>[] inside = RankStairs.class.getDeclaredClasses();
        hold(inside.length < 12, "rule 11: classes");
        List<Class<?>> all = new ArrayList<>(List.of(inside));
        all.add(RankStairs.class);
        for (Class<?> c : all) {
            hold(c == RankStairs.class || Modifier.isStatic(c.getModifiers()), "rule 2: " + c);
            int fields = 0;
            for (Field f : c.getDeclaredFields()) {
                boolean isStatic = Modifier.isStatic(f.getModifiers());
                hold(!isStatic || Modifier.isFinal(f.getModifiers()), "rule 5: " + f);
                fields += isStatic ? 0 : 1;
            }
            hold(fields <= 20, "rule 11: fields of " + c);
            for (Method m : c.getDeclaredMethods()) {
                hold(m.getParameterCount() <= 7, "rule 11: " + m);
                hold(c == RankStairs.class || !FACE.contains(" " + m.getName() + "("), "rule 1: " + m);
            }
        }
    }

    /** Calls by their names, so that two methods of one name count as one that makes the calls of both. */
    private static void depths(String code) {
        Map<String, Set<String>> calls = new TreeMap<>();
        String method = "(?ms)^( {4}| {8})(?! )[\\w\\[\\] ]*?(\\w+)\\([^()]*\\) \\{$(.*?)^\\1\\}$";
        Matcher methods = Pattern.compile(method).matcher(code);
        while (methods.find()) {
            Set<String> made = calls.computeIfAbsent(methods.group(2), k -> new TreeSet<>());
            Matcher call = Pattern.compile("\\b(\\w+)\\(").matcher(methods.group(3));
            while (call.find()) {
                made.add(call.group(1));
            }
        }
        hold(calls.size() > 80, "rule 11: too few methods are seen: " + calls.keySet());
        for (String name : calls.keySet()) {
            int depth = depth(name, calls, new HashSet<>());
            hold(depth <= 8, "rule 11: calls go " + depth + " deep from " + name);
        }
    }

    /** A method that stands open already is recursion, which counts once. */
    private static int depth(String name, Map<String, Set<String>> calls, Set<String> open) {
        int below = 0;
        open.add(name);
        for (String next : calls.getOrDefault(name, Set.of())) {
            // A call of the library is one level more; words such as if and for are none.
            boolean isCall = calls.containsKey(next) || next.matches("min|max|abs|bitCount|arraycopy|fill|\\w+Zeros");
            if (isCall && !open.contains(next)) {
                below = Math.max(below, depth(next, calls, open));
            }
        }
        open.remove(name);
        return below + 1;
    }

    /** A method begins on a line that ends in ") {" and ends on one with its brace at the same place. */
    private static void lengths(String source) {
        String[] lines = source.split("\n");
        for (int i = 0; i < lines.length; i++) {
            Matcher head = Pattern.compile("^( {4}| {8})(?!if|for|while|switch|\\}|else)\\w.*\\) \\{$").matcher(lines[i]);
            if (head.find()) {
                int last = i;
                while (!lines[last].equals(head.group(1) + "}")) {
                    last++;
                }
                hold(last - i < 60, "rule 11: long: " + lines[i]);
            }
            for (char c : lines[i].toCharArray()) {
                hold(c >= 32 && c < 127, "rule 4: a sign in line " + (i + 1));
            }
        }
    }
}
