import java.math.BigInteger;
import java.util.ArrayList;
import java.util.Arrays;
import java.util.List;
import java.util.regex.Matcher;
import java.util.regex.Pattern;

/**
 * The document said a second time, as plainly as can be and by other ways than the program's: every row of
 * STEPS is tried as a CLIMB, every HOLD by its own days, every set of STEPS that are out, all FLOORS.
 */
final class Model {
    static final int BAD = -1, STATE = -2, FULL = -3, NONE = -4;

    static final class Step {
        int kind, years, wear;

        Step(int kind, int years, int wear) {
            this.kind = kind;
            this.years = years;
            this.wear = wear;
        }
    }

    static final class Lodger {
        int legs, rank, load, floor;

        Lodger(int legs, int rank, int load, int floor) {
            this.legs = legs;
            this.rank = rank;
            this.load = load;
            this.floor = floor;
        }

        int reach() {
            return load < 5 ? legs : legs == 1 ? 1 : legs - 1;
        }
    }

    static final class World {
        final List<Step> steps = new ArrayList<>();
        final List<Lodger> lodgers = new ArrayList<>();
        int gap = 1, hold = 30, day = 0;
        /** STEPS that are out, beside those that are BROKEN. */
        int out = 0;

        World copy() {
            World w = new World();
            for (Step s : steps) {
                w.steps.add(new Step(s.kind, s.years, s.wear));
            }
            for (Lodger l : lodgers) {
                w.lodgers.add(new Lodger(l.legs, l.rank, l.load, l.floor));
            }
            w.gap = gap;
            w.hold = hold;
            w.day = day;
            w.out = out;
            return w;
        }

        int stepRank(int i) {
            Step s = steps.get(i);
            int wood = s.years >= 30 ? 3 : s.years >= 20 ? 2 : s.years >= 10 ? 1 : 0;
            if (s.kind == 0) {
                return wood;
            }
            return s.kind == 2 ? 0 : wood == 3 ? 3 : wood + 1;
        }

        boolean broken(int i) {
            return steps.get(i).wear >= hold;
        }

        int brokenBits() {
            int b = 0;
            for (int i = 0; i < steps.size(); i++) {
                b += broken(i) ? 1 << i : 0;
            }
            return b;
        }

        boolean mayTread(int p, int i) {
            if (broken(i) || (out >> i & 1) == 1) {
                return false;
            }
            int d = stepRank(i) - lodgers.get(p).rank;
            return steps.get(i).kind == 3 || (d <= gap && -d <= gap);
        }

        /** Every CLIMB, each as the row of its STEPS. */
        List<int[]> climbs(int p) {
            List<int[]> all = new ArrayList<>();
            Lodger l = lodgers.get(p);
            if (!mayTread(p, l.floor)) {
                return all;
            }
            for (int set = 0; set < 1 << l.floor; set++) {
                int[] row = new int[Integer.bitCount(set) + 1];
                int n = 0;
                for (int i = 0; i < l.floor; i++) {
                    if ((set >> i & 1) == 1) {
                        row[n++] = i;
                    }
                }
                row[n] = l.floor;
                if (isClimb(p, row)) {
                    all.add(row);
                }
            }
            return all;
        }

        boolean isClimb(int p, int[] row) {
            int at = -1;
            for (int i : row) {
                if (i - at > lodgers.get(p).reach() || !mayTread(p, i)) {
                    return false;
                }
                at = i;
            }
            return true;
        }

        int[] shortest(int p) {
            int[] best = null;
            for (int[] row : climbs(p)) {
                if (best == null || row.length < best.length
                        || (row.length == best.length && Arrays.compare(row, best) < 0)) {
                    best = row;
                }
            }
            return best;
        }

        boolean goes(int p) {
            int[] row = shortest(p);
            if (row == null) {
                return false;
            }
            for (int i : row) {
                Step s = steps.get(i);
                int more = s.kind == 0 ? 2 : s.kind == 1 ? 1 : 0;
                more += lodgers.get(p).load >= 5 ? 1 : 0;
                s.wear = s.kind == 3 ? s.wear : Math.min(99, s.wear + more);
            }
            return true;
        }

        int goDay() {
            int made = 0;
            for (int p = 0; p < lodgers.size(); p++) {
                made += goes(p) ? 1 : 0;
            }
            day++;
            return made;
        }

        int homes() {
            int b = 0;
            for (int p = 0; p < lodgers.size(); p++) {
                b += climbs(p).isEmpty() ? 0 : 1 << p;
            }
            return b;
        }
    }

    static final class Sheet {
        final int lane;
        final int[] cells;

        Sheet(int lane, int n) {
            this.lane = lane;
            this.cells = new int[n];
        }
    }

    World now = new World();
    final StringBuilder tape = new StringBuilder();
    final World[] images = new World[2];
    final Sheet[] sheets = new Sheet[4];
    final List<int[]> seen = new ArrayList<>();
    int fault = 0, torn = 0;

    // ---- the text

    int feed(int c) {
        if (c < 0 || c > 127) {
            return BAD;
        }
        if (tape.length() == 160) {
            return FULL;
        }
        tape.append((char) c);
        return tape.length();
    }

    int end(int n) {
        if (n < 0 || n > tape.length()) {
            return BAD;
        }
        int had = tape.length();
        tape.setLength(n);
        return had;
    }

    private static final Pattern TOKEN = Pattern.compile("[a-z]+|[0-9]+|;");
    private static final List<String> LINES = List.of("wood", "stone", "iron", "landing", "lodger", "gap", "hold");
    private static final String[] BOUNDS = {
        "0-60 0-99", "0-60 0-99", "0-60 0-99", "0-60 0-99", "1-4 0-3 0-9 0-9", "0-3", "1-99"};

    private String source;
    private int place, tokenAt;

    /** A FAULT and its place, carried out of the reading. */
    private static final class Fault extends Exception {
        private static final long serialVersionUID = 1;
        final int number, place;

        Fault(int number, int place) {
            this.number = number;
            this.place = place;
        }
    }

    /** The next TOKEN; an empty one is the end. */
    private String next() throws Fault {
        while (place < source.length() && source.charAt(place) == ' ') {
            place++;
        }
        tokenAt = place;
        if (place == source.length()) {
            return "";
        }
        Matcher m = TOKEN.matcher(source).region(place, source.length());
        if (!m.lookingAt()) {
            throw new Fault(1, place);
        }
        String t = m.group();
        if (Character.isDigit(t.charAt(0)) && t.length() > 2) {
            throw new Fault(1, place);
        }
        place = m.end();
        return t;
    }

    int text() {
        source = tape.toString();
        tape.setLength(0);
        place = 0;
        World w = new World();
        try {
            int lines = parse(w);
            now = w;
            seen.clear();
            images[0] = null;
            images[1] = null;
            fault = 0;
            return lines;
        } catch (Fault f) {
            fault = f.number;
            return -10 - f.place;
        }
    }

    private int parse(World w) throws Fault {
        int lines = 0;
        List<String> told = new ArrayList<>();
        for (String t = next(); !t.isEmpty(); t = next()) {
            int line = LINES.indexOf(t);
            if (line < 0) {
                throw new Fault(2, tokenAt);
            }
            if (line >= 5 && told.contains(t)) {
                throw new Fault(4, tokenAt);
            }
            told.add(t);
            if ((line < 4 && w.steps.size() == 10) || (line == 4 && w.lodgers.size() == 4)) {
                throw new Fault(5, tokenAt);
            }
            String[] bounds = BOUNDS[line].split(" ");
            int[] n = new int[bounds.length];
            for (int k = 0; k < n.length; k++) {
                String number = next();
                if (number.isEmpty() || !Character.isDigit(number.charAt(0))) {
                    throw new Fault(2, tokenAt);
                }
                n[k] = Integer.parseInt(number);
                String[] b = bounds[k].split("-");
                if (n[k] < Integer.parseInt(b[0]) || n[k] > Integer.parseInt(b[1])) {
                    throw new Fault(3, tokenAt);
                }
            }
            if (!next().equals(";")) {
                throw new Fault(2, tokenAt);
            }
            tell(w, line, n);
            lines++;
        }
        for (Lodger l : w.lodgers) {
            if (l.floor >= w.steps.size()) {
                throw new Fault(6, source.length());
            }
        }
        return lines;
    }

    private static void tell(World w, int line, int[] n) {
        if (line < 4) {
            w.steps.add(new Step(line, n[0], n[1]));
        } else if (line == 4) {
            w.lodgers.add(new Lodger(n[0], n[1], n[2], n[3]));
        } else if (line == 5) {
            w.gap = n[0];
        } else {
            w.hold = n[0];
        }
    }

    int fault() {
        return fault;
    }

    // ---- what there is, what is changed

    private boolean noStep(int i) {
        return i < 0 || i >= now.steps.size();
    }

    private boolean noLodger(int p) {
        return p < 0 || p >= now.lodgers.size();
    }

    private static boolean outside(int v, int a, int b) {
        return v < a || v > b;
    }

    int rule(int what) {
        int[] all = {now.steps.size(), now.lodgers.size(), now.gap, now.hold, now.day};
        return outside(what, 0, 4) ? BAD : all[what];
    }

    int step(int i, int what) {
        if (noStep(i) || outside(what, 0, 4)) {
            return BAD;
        }
        Step s = now.steps.get(i);
        return new int[] {s.kind, s.years, s.wear, now.stepRank(i), now.broken(i) ? 1 : 0}[what];
    }

    int lodger(int p, int what) {
        if (noLodger(p) || outside(what, 0, 5)) {
            return BAD;
        }
        Lodger l = now.lodgers.get(p);
        int treads = 0;
        for (int i = 0; i < now.steps.size(); i++) {
            treads += now.mayTread(p, i) ? 1 << i : 0;
        }
        return new int[] {l.legs, l.rank, l.load, l.floor, l.reach(), treads}[what];
    }

    int age(int i, int v) {
        if (noStep(i) || outside(v, 0, 60)) {
            return BAD;
        }
        int was = now.steps.get(i).years;
        now.steps.get(i).years = v;
        return was;
    }

    int wear(int i, int v) {
        if (noStep(i) || outside(v, 0, 99)) {
            return BAD;
        }
        int was = now.steps.get(i).wear;
        now.steps.get(i).wear = v;
        return was;
    }

    int mend(int i) {
        if (noStep(i)) {
            return BAD;
        }
        int was = now.steps.get(i).wear;
        now.steps.get(i).wear = 0;
        now.steps.get(i).years = 0;
        return was;
    }

    int rank(int p, int r) {
        if (noLodger(p) || outside(r, 0, 3)) {
            return BAD;
        }
        int was = now.lodgers.get(p).rank;
        now.lodgers.get(p).rank = r;
        return was;
    }

    int load(int p, int v) {
        if (noLodger(p) || outside(v, 0, 9)) {
            return BAD;
        }
        int was = now.lodgers.get(p).load;
        now.lodgers.get(p).load = v;
        return was;
    }

    int move(int p, int i) {
        if (noLodger(p) || noStep(i)) {
            return BAD;
        }
        int was = now.lodgers.get(p).floor;
        now.lodgers.get(p).floor = i;
        return was;
    }

    int law(int what, int v) {
        if (outside(what, 0, 1) || outside(v, what, what == 0 ? 3 : 99)) {
            return BAD;
        }
        int was = what == 0 ? now.gap : now.hold;
        if (what == 0) {
            now.gap = v;
        } else {
            now.hold = v;
        }
        return was;
    }

    int year() {
        World was = now.copy();
        int n = 0;
        for (int i = 0; i < now.steps.size(); i++) {
            Step s = now.steps.get(i);
            s.years = s.years == 60 ? 60 : s.years + 1;
            n += was.stepRank(i) != now.stepRank(i) ? 1 : 0;
        }
        return n;
    }

    // ---- climbs

    int climb(int p, int what) {
        if (noLodger(p) || (what != 0 && outside(what, 10, 19))) {
            return BAD;
        }
        int[] row = now.shortest(p);
        if (row == null) {
            return NONE;
        }
        return what == 0 ? row.length : what - 10 < row.length ? row[what - 10] : NONE;
    }

    int ways(int p) {
        return noLodger(p) ? BAD : now.climbs(p).size();
    }

    int smooth(int p, int what) {
        if (noLodger(p) || outside(what, 0, 1)) {
            return BAD;
        }
        int least = 100, fewest = 0;
        for (int[] row : now.climbs(p)) {
            int worst = 0;
            for (int i : row) {
                worst = Math.max(worst, now.steps.get(i).wear);
            }
            if (worst < least || (worst == least && row.length < fewest)) {
                least = worst;
                fewest = row.length;
            }
        }
        return least == 100 ? NONE : what == 0 ? least : fewest;
    }

    int homes() {
        return now.homes();
    }

    int must(int i) {
        if (noStep(i)) {
            return BAD;
        }
        int bits = 0;
        for (int p = 0; p < now.lodgers.size(); p++) {
            boolean all = !now.climbs(p).isEmpty();
            for (int[] row : now.climbs(p)) {
                all &= Arrays.stream(row).anyMatch(j -> j == i);
            }
            bits += all ? 1 << p : 0;
        }
        return bits;
    }

    // ---- days

    int day(int n) {
        if (outside(n, 0, 60)) {
            return BAD;
        }
        if (now.day + n >= 1000) {
            return FULL;
        }
        int made = 0;
        for (int d = 0; d < n; d++) {
            made += now.goDay();
        }
        return made;
    }

    int ahead(int n, int what) {
        if (outside(n, 0, 60) || (outside(what, 0, 1) && noStep(what - 10))) {
            return BAD;
        }
        World w = now.copy();
        int made = 0;
        for (int d = 0; d < n; d++) {
            made += w.goDay();
        }
        return what == 0 ? made : what == 1 ? w.brokenBits() : w.steps.get(what - 10).wear;
    }

    int breaks(int what) {
        if (outside(what, 0, 1)) {
            return BAD;
        }
        for (int d = 1; d <= 60; d++) {
            int then = ahead(d, 1);
            for (int i = 0; i < now.steps.size(); i++) {
                if ((then >> i & 1) == 1 && !now.broken(i)) {
                    return what == 0 ? d : i;
                }
            }
        }
        return NONE;
    }

    int stuck(int p) {
        if (noLodger(p)) {
            return BAD;
        }
        World w = now.copy();
        for (int d = 0; d <= 60; d++) {
            if (w.climbs(p).isEmpty()) {
                return d;
            }
            w.goDay();
        }
        return NONE;
    }

    // ---- what is to be done

    int gap(int p) {
        if (noLodger(p)) {
            return BAD;
        }
        World w = now.copy();
        for (w.gap = 0; w.gap <= 3; w.gap++) {
            if (!w.climbs(p).isEmpty()) {
                return w.gap;
            }
        }
        return NONE;
    }

    int legs(int p) {
        if (noLodger(p)) {
            return BAD;
        }
        World w = now.copy();
        for (int v = 1; v <= 4; v++) {
            w.lodgers.get(p).legs = v;
            if (!w.climbs(p).isEmpty()) {
                return v;
            }
        }
        return NONE;
    }

    int hold(int n) {
        if (outside(n, 0, 60)) {
            return BAD;
        }
        for (int h = 1; h <= 99; h++) {
            World w = now.copy();
            w.hold = h;
            boolean whole = w.brokenBits() == 0;
            for (int d = 0; d < n && whole; d++) {
                w.goDay();
                whole = w.brokenBits() == 0;
            }
            if (whole) {
                return h;
            }
        }
        return NONE;
    }

    int best(int what) {
        if (outside(what, 0, 1)) {
            return BAD;
        }
        int most = Integer.bitCount(now.homes()), which = NONE;
        for (int i = 0; i < now.steps.size(); i++) {
            World w = now.copy();
            w.steps.get(i).years = 0;
            w.steps.get(i).wear = 0;
            int n = Integer.bitCount(w.homes());
            if (n > most) {
                most = n;
                which = i;
            }
        }
        return which == NONE ? NONE : what == 0 ? which : most;
    }

    int lodge(int what) {
        if (outside(what, 0, 1) && noLodger(what - 10)) {
            return BAD;
        }
        int n = now.lodgers.size(), bestHave = -1, bestSteps = 0;
        int[] bestRow = null;
        for (int code = 0; code < 256; code++) {
            int[] row = {code >> 6 & 3, code >> 4 & 3, code >> 2 & 3, code & 3};
            int used = 0;
            for (int p = 0; p < n; p++) {
                used |= 1 << row[p];
            }
            if (used != (1 << n) - 1) {
                continue;
            }
            World w = now.copy();
            int have = 0, steps = 0;
            for (int p = 0; p < n; p++) {
                w.lodgers.get(p).floor = now.lodgers.get(row[p]).floor;
                int[] climb = w.shortest(p);
                have += climb == null ? 0 : 1;
                steps += climb == null ? 0 : climb.length;
            }
            if (have > bestHave || (have == bestHave && steps < bestSteps)) {
                bestHave = have;
                bestSteps = steps;
                bestRow = row;
            }
        }
        return what == 0 ? bestHave : what == 1 ? bestSteps : now.lodgers.get(bestRow[what - 10]).floor;
    }

    // ---- odds

    private BigInteger[] chance(int v, int p) {
        int n = now.steps.size();
        BigInteger sum = BigInteger.ZERO;
        for (int out = 0; out < 1 << n; out++) {
            BigInteger weight = BigInteger.ONE;
            for (int i = 0; i < n; i++) {
                boolean isOut = (out >> i & 1) == 1;
                int tenths = now.steps.get(i).kind == 3 ? (isOut ? 0 : 10) : isOut ? v : 10 - v;
                weight = weight.multiply(BigInteger.valueOf(tenths));
            }
            if (weight.signum() > 0) {
                World w = now.copy();
                w.out = out;
                sum = w.climbs(p).isEmpty() ? sum : sum.add(weight);
            }
        }
        return new BigInteger[] {sum, BigInteger.TEN.pow(n)};
    }

    private static long lowest(BigInteger num, BigInteger den, int what) {
        return (what == 0 ? num : den).divide(num.gcd(den)).longValueExact();
    }

    long odds(int v, int p, int what) {
        if (outside(v, 0, 10) || noLodger(p) || outside(what, 0, 1)) {
            return BAD;
        }
        BigInteger[] c = chance(v, p);
        return lowest(c[0], c[1], what);
    }

    long mean(int v, int what) {
        if (outside(v, 0, 10) || outside(what, 0, 1)) {
            return BAD;
        }
        BigInteger sum = BigInteger.ZERO;
        for (int p = 0; p < now.lodgers.size(); p++) {
            sum = sum.add(chance(v, p)[0]);
        }
        return lowest(sum, BigInteger.TEN.pow(now.steps.size()), what);
    }

    // ---- dust

    int see(int i, int more) {
        if (noStep(i) || outside(more, 0, 40)) {
            return BAD;
        }
        if (seen.size() == 6) {
            return FULL;
        }
        seen.add(new int[] {i, more});
        return seen.size();
    }

    int forget(int n) {
        if (outside(n, 0, seen.size())) {
            return BAD;
        }
        int had = seen.size();
        while (seen.size() > n) {
            seen.remove(n);
        }
        return had;
    }

    /** How many FLOORS of all FIT, with the FLOORS that each LODGER has by them. */
    private int[] fitting() {
        int n = now.lodgers.size(), all = 1;
        int[] found = new int[5];
        for (int p = 0; p < n; p++) {
            all *= now.steps.size();
        }
        for (int code = 0; code < all; code++) {
            World w = now.copy();
            int rest = code;
            for (Lodger l : w.lodgers) {
                l.floor = rest % now.steps.size();
                rest /= now.steps.size();
            }
            World then = w.copy();
            then.goDay();
            boolean so = true;
            for (int[] s : seen) {
                so &= then.steps.get(s[0]).wear - w.steps.get(s[0]).wear == s[1];
            }
            for (int p = 0; p < n && so; p++) {
                found[p] |= 1 << w.lodgers.get(p).floor;
            }
            found[4] += so ? 1 : 0;
        }
        return found;
    }

    int fits() {
        return fitting()[4];
    }

    int floors(int p) {
        return noLodger(p) ? BAD : fitting()[p];
    }

    // ---- by a seed

    int drift(int seed, int n, int what) {
        if (outside(n, 1, 60) || outside(what, 0, 1)) {
            return BAD;
        }
        if (now.lodgers.isEmpty()) {
            return STATE;
        }
        World w = now.copy();
        long s = seed;
        int went = 0;
        for (int t = 0; t < n; t++) {
            s = (s * 1103515245L + 12345L) & 0xffffffffL;
            int bits = (int) (s / 65536 % 32768);
            went += w.goes(bits % w.lodgers.size()) ? 1 : 0;
        }
        return what == 0 ? went : w.brokenBits();
    }

    // ---- images, sheets

    int keep(int k) {
        if (outside(k, 0, 1)) {
            return BAD;
        }
        int was = images[k] == null ? 0 : 1;
        images[k] = now.copy();
        return was;
    }

    int back(int k) {
        if (outside(k, 0, 1)) {
            return BAD;
        }
        if (images[k] == null) {
            return STATE;
        }
        now = images[k].copy();
        return now.day;
    }

    int sheet(int k, int lane, int n) {
        if (outside(k, 0, 3) || outside(lane, 0, 2) || n > 40) {
            return BAD;
        }
        if (n < 0) {
            return -14;
        }
        sheets[k] = new Sheet(lane, n);
        return 1;
    }

    int lay(int k, int i, int v) {
        if (outside(k, 0, 3)) {
            return BAD;
        }
        if (sheets[k] == null) {
            return -11;
        }
        if (outside(i, 0, sheets[k].cells.length - 1)) {
            return -12;
        }
        int[] byLane = {(byte) v, (short) v, v};
        sheets[k].cells[i] = byLane[sheets[k].lane];
        return 1;
    }

    int read(int k, int lane, int f, int n) {
        if (outside(k, 0, 3) || outside(lane, 0, 2) || outside(n, 0, 20)) {
            return BAD;
        }
        World w = now.copy();
        Sheet s = sheets[k];
        int found = 0;
        int did = 0;
        for (int i = 0; i < n && found == 0; i++) {
            long at = (long) f + i;
            if (s == null) {
                found = 1;
            } else if (s.lane != lane) {
                found = 3;
            } else if (at < 0 || at >= s.cells.length) {
                found = 2;
            } else {
                int p = s.cells[(int) at];
                if (noLodger(p) || !w.goes(p)) {
                    return -20 - i;
                }
                did++;
            }
        }
        now = w;
        torn = found;
        return did;
    }

    int torn() {
        return torn;
    }

    int count(int what) {
        switch (what) {
            case 0: return seen.size();
            case 1: return (images[0] == null ? 0 : 1) + (images[1] == null ? 0 : 1);
            case 2: return tape.length();
            case 3: return sheets[0] == null ? NONE : sheets[0].cells.length;
            case 4: return Integer.bitCount(now.brokenBits());
            case 5: return now.steps.stream().mapToInt(s -> s.wear).sum();
            case 6: return Integer.bitCount(now.homes());
            default: return BAD;
        }
    }
}
