import java.io.IOException;
import java.nio.file.Files;
import java.nio.file.Path;
import java.util.BitSet;
import java.util.Map;
import java.util.TreeMap;

/** What the boundary tests share: the sentence of the document that is tried, and the answers that are due by it. */
final class Bench {
    static final int BAD = -1, STATE = -2, FULL = -3, NONE = -4;
    static final int LOW = Integer.MIN_VALUE, HIGH = Integer.MAX_VALUE;
    private static final Path DOCUMENT = Path.of("../shared/DOC.md");
    private static final Map<String, String> sections = readSections();
    /** Of each part of the document, which of its signs were quoted. */
    private static final Map<String, BitSet> quoted = new TreeMap<>();
    private static String sentence = "";
    private static int sentences = 0;
    private static int checks = 0;
    private static int wrong = 0;

    private Bench() {
    }

    /** The document's parts by their headings, each in one line without its marks; a promise by its number alone. */
    private static Map<String, String> readSections() {
        Map<String, String> parts = new TreeMap<>();
        try {
            for (String part : Files.readString(DOCUMENT).split("(?m)^## ")) {
                String[] headed = part.split("\n", 2);
                String body = headed[headed.length - 1].replaceAll("```\\w*|======== \\d|Ahead of the calls.*", "");
                String said = body.trim().replaceFirst("^`[^`]*`: ", "").replaceAll("\\s+", " ");
                parts.put(headed[0].split(":")[0].trim(), said);
            }
        } catch (IOException e) {
            System.out.println("no document at " + DOCUMENT + ": its sentences are not looked up");
        }
        return parts;
    }

    /** What follows tries a sentence of a promise. */
    static void promise(int number, String words) {
        quote("Promise " + number, words);
    }

    /** What follows tries a sentence of the terms. */
    static void terms(String words) {
        quote("Terms", words);
    }

    /** A quotation that the document does not hold would try something that nobody promised. */
    static void quote(String section, String words) {
        sentence = section + ": " + words;
        sentences++;
        int at = sections.getOrDefault(section, "").indexOf(words);
        if (at >= 0) {
            quoted.computeIfAbsent(section, k -> new BitSet()).set(at, at + words.length());
        } else if (!sections.isEmpty()) {
            complain("the document does not say so");
        }
    }

    static void due(long want, long got) {
        checks++;
        if (want != got) {
            complain("answered " + got + ", due is " + want);
        }
    }

    static void complain(String what) {
        wrong++;
        StringBuilder at = new StringBuilder();
        for (StackTraceElement e : new Throwable().getStackTrace()) {
            if (e.getClassName().endsWith("Boundaries")) {
                at.append(' ').append(e.getFileName()).append(':').append(e.getLineNumber());
            }
        }
        System.out.println(sentence + "\n   " + what + " (" + at.toString().trim() + ")");
    }

    static void feed(RankStairs x, String text) {
        for (int i = 0; i < text.length(); i++) {
            x.feed(text.charAt(i));
        }
    }

    static int tell(RankStairs x, String text) {
        feed(x, text);
        return x.text();
    }

    /** A new object of which the text was taken. */
    static RankStairs told(String text) {
        RankStairs x = new RankStairs();
        if (tell(x, text) < 0) {
            complain("not taken: " + text);
        }
        return x;
    }

    static void taken(int lines, String text) {
        RankStairs x = new RankStairs();
        due(lines, tell(x, text));
        due(0, x.fault());
    }

    static void faulty(int fault, int place, String text) {
        RankStairs x = new RankStairs();
        due(-10 - place, tell(x, text));
        due(fault, x.fault());
    }

    /** Whether all was as due, and all that the terms and the promises say was tried. */
    static boolean ends() {
        for (String section : sections.keySet()) {
            if (section.equals("Terms") || section.startsWith("Promise ")) {
                lookForUntried(section);
            }
        }
        System.out.println(checks + " answers by " + sentences + " sentences, " + wrong + " not as due");
        return wrong == 0;
    }

    private static void lookForUntried(String section) {
        String said = sections.get(section);
        BitSet tried = quoted.getOrDefault(section, new BitSet());
        for (int from = tried.nextClearBit(0); from < said.length(); ) {
            int to = tried.nextSetBit(from);
            String rest = said.substring(from, to < 0 ? said.length() : to);
            if (!rest.replaceAll("\\W", "").isEmpty()) {
                wrong++;
                System.out.println(section + ": not tried: " + rest.trim());
            }
            from = to < 0 ? said.length() : tried.nextClearBit(to);
        }
    }
}
