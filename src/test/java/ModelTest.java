import java.lang.reflect.InvocationTargetException;
import java.lang.reflect.Method;
import java.lang.reflect.Modifier;
import java.util.ArrayList;
import java.util.Arrays;
import java.util.Comparator;
import java.util.List;
import java.util.Map;
import java.util.Random;
import java.util.TreeMap;

/** Runs of calls drawn by a seed, each answer held against that of the plain Model. */
public final class ModelTest {
    private static final int RUNS = 2000;
    /** What an object answers behind so many calls is free. */
    private static final int MOST_CALLS = 512;
    /** A text takes most: that of a full TAPE. */
    private static final int MOST_AT_ONCE = 164;
    private static final String[] KINDS = {"wood", "stone", "iron", "landing"};
    private static final int[] ODD = {-1, -2, 10, 11, 12, 41, 61, 100, 128, 1000, Integer.MIN_VALUE, Integer.MAX_VALUE};
    /** Of each call, what its numbers are: STEP, LODGER, a question, DAYS, YEARS, ..; a figure: below it. */
    private static final String HINTS = " feed:c end:d fault: rule:6 step:i5 lodger:p6 age:iy wear:im mend:i rank:p4"
        + " load:p9 move:pi law:2m year: climb:pk ways:p smooth:p2 homes: must:i day:d ahead:dw breaks:2 stuck:p gap:p"
        + " legs:p hold:d best:2 lodge:w odds:tp2 mean:t2 see:i7 forget:7 fits: floors:p drift:sd2 keep:2 back:2"
        + " sheet:43n lay:49s read:4389 torn: count:8 ";
    private static int wrong = 0;
    private static final int[] told = new int[7];

    private final Random random;
    private final RankStairs program = new RankStairs();
    private final Model model = new Model();
    private final List<String> log = new ArrayList<>();
    private int calls = 0;
    /** How often each call had an answer that is no refusal. */
    private static final Map<String, Integer> answered = new TreeMap<>();

    private ModelTest(long seed) {
        random = new Random(seed);
    }

    public static void main(String[] args) throws ReflectiveOperationException {
        List<Method> face = new ArrayList<>();
        for (Method m : RankStairs.class.getDeclaredMethods()) {
            // text() comes with feedText(): by itself it would empty the house again and again.
            if (Modifier.isPublic(m.getModifiers()) && !m.getName().equals("text")) {
                face.add(m);
            }
        }
        face.sort(Comparator.comparing(Method::getName));
        for (int run = 0; run < RUNS && wrong < 5; run++) {
            new ModelTest(run).go(face);
        }
        System.out.println("texts by their faults, 0 to 6: " + Arrays.toString(told));
        System.out.println("calls that were not refused: " + answered);
        System.out.println(wrong == 0 ? "the program answers as the model" : "the program differs from the model");
        if (wrong != 0) {
            System.exit(1);
        }
    }

    private void go(List<Method> face) throws ReflectiveOperationException {
        while (calls <= MOST_CALLS - MOST_AT_ONCE) {
            boolean same;
            if (calls == 0 || random.nextInt(60) == 0) {
                same = feedText();
            } else if (random.nextInt(40) == 0) {
                same = fillSheet();
            } else if (random.nextInt(40) == 0 && !isDear()) {
                same = seeDust();
            } else {
                Method m = face.get(random.nextInt(face.size()));
                // All FLOORS of a large house are dear to the model.
                if ((m.getName().equals("fits") || m.getName().equals("floors")) && isDear() && random.nextInt(8) != 0) {
                    continue;
                }
                same = call(m, arguments(m));
            }
            if (!same) {
                wrong++;
                log.forEach(System.out::println);
                return;
            }
        }
    }

    private boolean isDear() {
        return Math.pow(model.now.steps.size(), model.now.lodgers.size()) > 300;
    }

    private Object[] arguments(Method m) {
        String hints = HINTS.substring(HINTS.indexOf(" " + m.getName() + ":") + m.getName().length() + 2);
        Object[] a = new Object[m.getParameterCount()];
        for (int k = 0; k < a.length; k++) {
            a[k] = random.nextInt(25) == 0 ? ODD[random.nextInt(ODD.length)] : argument(hints.charAt(k));
        }
        return a;
    }

    private int argument(char hint) {
        switch (hint) {
            case 'i': return random.nextInt(model.now.steps.size() + 1);
            case 'p': return random.nextInt(model.now.lodgers.size() + 1);
            case 'w': return random.nextInt(random.nextInt(3) == 0 ? 22 : 2);
            case 'k': return random.nextInt(3) == 0 ? 0 : 9 + random.nextInt(random.nextInt(4) == 0 ? 12 : 4);
            case 'd': return random.nextInt(random.nextInt(3) == 0 ? 62 : 5);
            case 'y': return random.nextInt(61);
            case 'm': return random.nextInt(random.nextInt(3) == 0 ? 100 : 30);
            case 'n': return random.nextInt(42) - 1;
            case 't': return random.nextInt(11);
            case 's': return random.nextInt();
            case 'c': return random.nextInt(128);
            default: return random.nextInt(hint - '0');
        }
    }

    private boolean call(Method m, Object... a) throws ReflectiveOperationException {
        calls++;
        String asked = m.getName() + Arrays.toString(a);
        long want = ask(Model.class.getDeclaredMethod(m.getName(), m.getParameterTypes()), model, a);
        long got;
        try {
            got = ask(m, program, a);
        } catch (InvocationTargetException e) {
            log.add(asked + " threw " + e.getCause());
            return false;
        }
        answered.merge(m.getName(), want >= 0 ? 1 : 0, Integer::sum);
        log.add(asked + " answered " + got + (got == want ? "" : ", due is " + want));
        return got == want;
    }

    private static long ask(Method m, Object on, Object... a) throws ReflectiveOperationException {
        return ((Number) m.invoke(on, a)).longValue();
    }

    private boolean fillSheet() throws ReflectiveOperationException {
        Method sheet = RankStairs.class.getMethod("sheet", int.class, int.class, int.class);
        Method lay = RankStairs.class.getMethod("lay", int.class, int.class, int.class);
        int k = random.nextInt(4);
        int n = random.nextInt(8);
        boolean same = call(sheet, k, random.nextInt(3), n);
        for (int i = 0; i < n && same; i++) {
            int v = random.nextInt(10) == 0 ? random.nextInt() : random.nextInt(Math.max(1, model.now.lodgers.size()));
            same = call(lay, k, i, v + (random.nextInt(4) == 0 ? 1 << 8 * random.nextInt(4) : 0));
        }
        return same;
    }

    /** What is SEEN of a DAY with FLOORS drawn at random, so that something FITS. */
    private boolean seeDust() throws ReflectiveOperationException {
        Method see = RankStairs.class.getMethod("see", int.class, int.class);
        Model.World w = model.now.copy();
        w.lodgers.forEach(l -> l.floor = random.nextInt(w.steps.size()));
        w.goDay();
        boolean same = call(RankStairs.class.getMethod("forget", int.class), 0);
        for (int n = w.steps.isEmpty() ? 0 : random.nextInt(6); n > 0 && same; n--) {
            int i = random.nextInt(w.steps.size());
            same = call(see, i, w.steps.get(i).wear - model.now.steps.get(i).wear);
        }
        same = same && call(RankStairs.class.getMethod("fits"));
        for (int p = 0; p < w.lodgers.size() && same; p++) {
            same = call(RankStairs.class.getMethod("floors", int.class), p);
        }
        return same;
    }

    private boolean feedText() throws ReflectiveOperationException {
        String text = random.nextInt(4) == 0 ? spoiled(drawn()) : drawn();
        if (!call(RankStairs.class.getMethod("end", int.class), 0)) {
            return false;
        }
        log.add("to be fed: " + text);
        for (int i = 0; i < text.length(); i++) {
            calls++;
            if (program.feed(text.charAt(i)) != model.feed(text.charAt(i))) {
                log.add("feed differs at " + i);
                return false;
            }
        }
        if (!call(RankStairs.class.getMethod("text"))) {
            return false;
        }
        told[model.fault]++;
        return call(RankStairs.class.getMethod("fault"));
    }

    private String drawn() {
        List<String> lines = new ArrayList<>();
        int steps = random.nextInt(11) + (random.nextInt(20) == 0 ? 1 : 0);
        int lodgers = random.nextInt(steps > 6 ? 4 : 5) + (random.nextInt(20) == 0 ? 1 : 0);
        int few = random.nextBoolean() ? 30 : 61;
        int worn = random.nextBoolean() ? 9 : 35;
        for (int i = 0; i < steps; i++) {
            lines.add(KINDS[random.nextInt(4)] + " " + random.nextInt(few) + " " + random.nextInt(worn));
        }
        for (int p = 0; p < lodgers && steps > 0; p++) {
            int floor = random.nextInt(30) == 0 ? 9 : random.nextBoolean() ? steps - 1 : random.nextInt(steps);
            lines.add("lodger " + (1 + random.nextInt(4)) + " " + random.nextInt(4) + " "
                + random.nextInt(10) + " " + Math.min(floor, 9));
        }
        if (random.nextBoolean()) {
            lines.add("gap " + random.nextInt(4));
        }
        if (random.nextBoolean()) {
            lines.add("hold " + (random.nextBoolean() ? 1 + random.nextInt(99) : 15));
        }
        if (random.nextInt(12) == 0) {
            lines.add(random.nextBoolean() ? "gap 2" : "hold 9");
        }
        // So that all of a tall house finds room on THE TAPE.
        while (String.join(";", lines).length() >= 160) {
            lines.remove(random.nextInt(Math.max(1, steps - 1)));
        }
        return lines.isEmpty() ? "" : String.join(";", lines) + ";";
    }

    private String spoiled(String text) {
        StringBuilder b = new StringBuilder(text);
        String signs = "  ;;0129azgW\t-";
        for (int t = random.nextInt(3); t >= 0; t--) {
            int at = random.nextInt(b.length() + 1);
            char c = signs.charAt(random.nextInt(signs.length()));
            switch (random.nextInt(4)) {
                case 0: b.insert(at, c); break;
                case 1: b.setLength(at); break;
                case 2: if (at < b.length()) { b.deleteCharAt(at); } break;
                default: if (at < b.length()) { b.setCharAt(at, c); } break;
            }
        }
        return b.toString();
    }
}
