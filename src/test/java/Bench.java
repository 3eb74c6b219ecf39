import java.io.IOException;
import java.nio.file.Files;
import java.nio.file.Path;
import java.util.Map;
import java.util.Set;
import java.util.TreeMap;
import java.util.TreeSet;

/** What the boundary tests share: the sentence of the document that is tried, and the answers that are due by it. */
final class Bench {
    static final int BAD = -1, STATE = -2, FULL = -3, NONE = -4;
    static final int LOW = Integer.MIN_VALUE, HIGH = Integer.MAX_VALUE;
    static final int PROMISES = 44;
    private static final Path DOCUMENT = Path.of("../shared/DOC.md");
    private static final Map<String, String> sections = readSections();
    private static final Set<String> quoted = new TreeSet<>();
    private static String sentence = "";
    private static int sentences = 0;
    private static int checks = 0;
    private static int wrong = 0;

    private Bench() {
    }

    /** The document's parts by their headings, each in one line; a promise by its number alone. */
    private static Map<String, String> readSections() {
        Map<String, String> parts = new TreeMap<>();
        try {
            for (String part : Files.readString(DOCUMENT).split("(?m)^## ")) {
                String heading = part.split("\n", 2)[0];
                parts.put(heading.split(":")[0], part.replaceAll("\\s+", " "));
            }
        } catch (IOException e) {
            System.out.println("no document at " + DOCUMENT + ": its sentences are not looked up");
        }
        return parts;
    }

    /** What follows tries a sentence of a promise. */
    static void promise(int number, String words) {
        quote("Promise " + number, words);
    }

    /** What follows tries a sentence of the terms. */
    static void terms(String words) {
        quote("Terms", words);
    }

    /** A quotation that the document does not hold would try something that nobody promised. */
    static void quote(String section, String words) {
        sentence = section + ": " + words;
        sentences++;
        quoted.add(section);
        if (!sections.isEmpty() && !sections.getOrDefault(section, "").contains(words)) {
            complain("the document does not say so");
        }
    }

    static void due(long want, long got) {
        checks++;
        if (want != got) {
            complain("answered " + got + ", due is " + want);
        }
    }

    static void complain(String what) {
        wrong++;
        StringBuilder at = new StringBuilder();
        for (StackTraceElement e : new Throwable().getStackTrace()) {
            if (e.getClassName().endsWith("Boundaries")) {
                at.append(' ').append(e.getFileName()).append(':').append(e.getLineNumber());
            }
        }
        System.out.println(sentence + "\n   " + what + " (" + at.toString().trim() + ")");
    }

    static void feed(RankStairs x, String text) {
        for (int i = 0; i < text.length(); i++) {
            x.feed(text.charAt(i));
        }
    }

    static int tell(RankStairs x, String text) {
        feed(x, text);
        return x.text();
    }

    /** A new object of which the text was taken. */
    static RankStairs told(String text) {
        RankStairs x = new RankStairs();
        if (tell(x, text) < 0) {
            complain("not taken: " + text);
        }
        return x;
    }

    static void taken(int lines, String text) {
        RankStairs x = new RankStairs();
        due(lines, tell(x, text));
        due(0, x.fault());
    }

    static void faulty(int fault, int place, String text) {
        RankStairs x = new RankStairs();
        due(-10 - place, tell(x, text));
        due(fault, x.fault());
    }

    /** Whether all was as due, and every promise has a sentence that was tried. */
    static boolean ends() {
        for (int number = 1; number <= PROMISES; number++) {
            if (!quoted.contains("Promise " + number)) {
                wrong++;
                System.out.println("no sentence of promise " + number + " was tried");
            }
        }
        System.out.println(checks + " answers by " + sentences + " sentences, " + wrong + " not as due");
        return wrong == 0;
    }
}
