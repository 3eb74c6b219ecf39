import java.util.Arrays;

/** Stairs by seniority: who climbs by which steps, what wears and breaks, and who gets home. */
public final class RankStairs {
    public static final int BAD = -1, STATE = -2, FULL = -3, NONE = -4;

    private static final int MOST_STEPS = 10;
    private static final int MOST_LODGERS = 4;
    private static final int MOST_KINDS = 4;
    private static final int MOST_YEARS = 60;
    private static final int MOST_WEAR = 99;
    private static final int MOST_RANK = 3;
    private static final int MOST_LEGS = 4;
    private static final int MOST_LOAD = 9;
    private static final int MOST_GAP = 3;
    private static final int MOST_HOLD = 99;
    private static final int HEAVY_LOAD = 5;
    private static final int LANDING = 3;
    private static final int MOST_DAYS = 60;
    private static final int DAYS_END = 1000;
    private static final int IMAGES = 2;
    private static final int SHEETS = 4;
    private static final int LANES = 3;
    private static final int MOST_READ = 20;

    /** In questions with a place behind them, "10 and k" asks for the place k. */
    private static final int PLACE = 10;

    private final Tape tape = new Tape();
    private final House now = new House();
    /** What is only tried, so that what there is stays as it is. */
    private final House trial = new House();
    private final House[] images = new House[IMAGES];
    private final boolean[] kept = new boolean[IMAGES];
    private final Climber climber = new Climber();
    private final Exchange exchange = new Exchange();
    private final Chances chances = new Chances();
    private final Dust dust = new Dust();
    private final Sheet[] sheets = new Sheet[SHEETS];
    private int readFault = 0;

    public RankStairs() {
        for (int k = 0; k < IMAGES; k++) {
            images[k] = new House();
        }
        for (int k = 0; k < SHEETS; k++) {
            sheets[k] = new Sheet();
        }
    }

    // ---- the text, what there is

    public int feed(int c) {
        if (!within(c, 0, 127)) {
            return BAD;
        }
        return tape.put(c);
    }

    public int end(int n) {
        if (!within(n, 0, tape.length)) {
            return BAD;
        }
        int had = tape.length;
        tape.length = n;
        return had;
    }

    public int text() {
        int lines = tape.tell(trial);
        if (tape.found == 0) {
            now.copyFrom(trial);
            dust.seen = 0;
            forgetImages();
        }
        return lines;
    }

    public int fault() {
        return tape.found;
    }

    public int rule(int what) {
        switch (what) {
            case 0: return now.steps;
            case 1: return now.lodgers;
            case 2: return now.gapLaw;
            case 3: return now.holdLaw;
            case 4: return now.dayNumber;
            default: return BAD;
        }
    }

    public int step(int i, int what) {
        if (!isStep(i)) {
            return BAD;
        }
        switch (what) {
            case 0: return now.kinds[i];
            case 1: return now.years[i];
            case 2: return now.wears[i];
            case 3: return now.rankOfStep(i);
            case 4: return now.isBroken(i) ? 1 : 0;
            default: return BAD;
        }
    }

    public int lodger(int p, int what) {
        if (!isLodger(p)) {
            return BAD;
        }
        switch (what) {
            case 0: return now.legsOf[p];
            case 1: return now.rankOf[p];
            case 2: return now.loadOf[p];
            case 3: return now.floorOf[p];
            case 4: return now.reachOf(p);
            case 5: return now.treadBits(p);
            default: return BAD;
        }
    }

    // ---- what is changed

    public int age(int i, int v) {
        if (!isStep(i) || !within(v, 0, MOST_YEARS)) {
            return BAD;
        }
        return exchanged(now.years, i, v);
    }

    public int wear(int i, int v) {
        if (!isStep(i) || !within(v, 0, MOST_WEAR)) {
            return BAD;
        }
        return exchanged(now.wears, i, v);
    }

    public int mend(int i) {
        if (!isStep(i)) {
            return BAD;
        }
        int was = now.wears[i];
        now.renew(i);
        return was;
    }

    public int rank(int p, int r) {
        if (!isLodger(p) || !within(r, 0, MOST_RANK)) {
            return BAD;
        }
        return exchanged(now.rankOf, p, r);
    }

    public int load(int p, int v) {
        if (!isLodger(p) || !within(v, 0, MOST_LOAD)) {
            return BAD;
        }
        return exchanged(now.loadOf, p, v);
    }

    public int move(int p, int i) {
        if (!isLodger(p) || !isStep(i)) {
            return BAD;
        }
        return exchanged(now.floorOf, p, i);
    }

    public int law(int what, int v) {
        if (what == 0 && within(v, 0, MOST_GAP)) {
            int was = now.gapLaw;
            now.gapLaw = v;
            return was;
        }
        if (what == 1 && within(v, 1, MOST_HOLD)) {
            int was = now.holdLaw;
            now.holdLaw = v;
            return was;
        }
        return BAD;
    }

    public int year() {
        int changed = 0;
        for (int i = 0; i < now.steps; i++) {
            int was = now.rankOfStep(i);
            now.years[i] = Math.min(now.years[i] + 1, MOST_YEARS);
            if (now.rankOfStep(i) != was) {
                changed++;
            }
        }
        return changed;
    }

    // ---- climbs

    public int climb(int p, int what) {
        int k = what - PLACE;
        if (!isLodger(p) || (what != 0 && !within(k, 0, MOST_STEPS - 1))) {
            return BAD;
        }
        int path = climber.shortest(now, p);
        if (path == 0) {
            return NONE;
        }
        return what == 0 ? Integer.bitCount(path) : stepOfPath(path, k);
    }

    public int ways(int p) {
        return isLodger(p) ? climber.countClimbs(now, p) : BAD;
    }

    public int smooth(int p, int what) {
        if (!isLodger(p) || !within(what, 0, 1)) {
            return BAD;
        }
        if (!now.getsHome(p)) {
            return NONE;
        }
        int worst = climber.leastWorst(now, p);
        return what == 0 ? worst : climber.fewestWithin(now, p, worst);
    }

    public int homes() {
        return now.homeBits();
    }

    public int must(int i) {
        if (!isStep(i)) {
            return BAD;
        }
        int bits = 0;
        for (int p = 0; p < now.lodgers; p++) {
            if (now.getsHome(p) && !now.getsHomeBy(p, now.treadBits(p) & ~(1 << i))) {
                bits |= 1 << p;
            }
        }
        return bits;
    }

    // ---- days

    public int day(int n) {
        if (!within(n, 0, MOST_DAYS)) {
            return BAD;
        }
        if (now.dayNumber + n >= DAYS_END) {
            return FULL;
        }
        return climber.goDays(now, n);
    }

    public int ahead(int n, int what) {
        int i = what - PLACE;
        if (!within(n, 0, MOST_DAYS) || !(within(what, 0, 1) || isStep(i))) {
            return BAD;
        }
        trial.copyFrom(now);
        int made = climber.goDays(trial, n);
        if (what == 0) {
            return made;
        }
        return what == 1 ? trial.brokenBits() : trial.wears[i];
    }

    public int breaks(int what) {
        if (!within(what, 0, 1)) {
            return BAD;
        }
        int whole = ~now.brokenBits();
        trial.copyFrom(now);
        for (int d = 1; d <= MOST_DAYS; d++) {
            climber.goDays(trial, 1);
            int more = trial.brokenBits() & whole;
            if (more != 0) {
                return what == 0 ? d : Integer.numberOfTrailingZeros(more);
            }
        }
        return NONE;
    }

    public int stuck(int p) {
        if (!isLodger(p)) {
            return BAD;
        }
        trial.copyFrom(now);
        for (int d = 0; d <= MOST_DAYS; d++) {
            if (!trial.getsHome(p)) {
                return d;
            }
            climber.goDays(trial, 1);
        }
        return NONE;
    }

    // ---- what is to be done

    public int gap(int p) {
        if (!isLodger(p)) {
            return BAD;
        }
        trial.copyFrom(now);
        for (int v = 0; v <= MOST_GAP; v++) {
            trial.gapLaw = v;
            if (trial.getsHome(p)) {
                return v;
            }
        }
        return NONE;
    }

    public int legs(int p) {
        if (!isLodger(p)) {
            return BAD;
        }
        trial.copyFrom(now);
        for (int v = 1; v <= MOST_LEGS; v++) {
            trial.legsOf[p] = v;
            if (trial.getsHome(p)) {
                return v;
            }
        }
        return NONE;
    }

    public int hold(int n) {
        if (!within(n, 0, MOST_DAYS)) {
            return BAD;
        }
        // Under a HOLD that nothing comes up to, all goes as if nothing could break:
        // so one trial of stairs that can not break tells the least HOLD.
        trial.copyFrom(now);
        trial.holdLaw = MOST_WEAR + 1;
        climber.goDays(trial, n);
        int least = trial.mostWear() + 1;
        return least <= MOST_HOLD ? least : NONE;
    }

    public int best(int what) {
        if (!within(what, 0, 1)) {
            return BAD;
        }
        int most = Integer.bitCount(now.homeBits());
        int which = NONE;
        for (int i = 0; i < now.steps; i++) {
            trial.copyFrom(now);
            trial.renew(i);
            int home = Integer.bitCount(trial.homeBits());
            if (home > most) {
                most = home;
                which = i;
            }
        }
        return which == NONE || what == 0 ? which : most;
    }

    public int lodge(int what) {
        int p = what - PLACE;
        if (!within(what, 0, 1) && !isLodger(p)) {
            return BAD;
        }
        exchange.arrange(now);
        if (what == 0) {
            return exchange.bestHave;
        }
        return what == 1 ? exchange.bestSteps : now.floorOf[exchange.bestTakes[p]];
    }

    // ---- odds

    public long odds(int v, int p, int what) {
        if (!within(v, 0, Chances.TENTHS) || !isLodger(p) || !within(what, 0, 1)) {
            return BAD;
        }
        return Chances.lowest(chances.ofHome(now, p, v), what);
    }

    public long mean(int v, int what) {
        if (!within(v, 0, Chances.TENTHS) || !within(what, 0, 1)) {
            return BAD;
        }
        long sum = 0;
        for (int p = 0; p < now.lodgers; p++) {
            sum += chances.ofHome(now, p, v);
        }
        return Chances.lowest(sum, what);
    }

    // ---- dust

    public int see(int i, int more) {
        if (!isStep(i) || !within(more, 0, Dust.MOST_MORE)) {
            return BAD;
        }
        return dust.note(i, more);
    }

    public int forget(int n) {
        if (!within(n, 0, dust.seen)) {
            return BAD;
        }
        int had = dust.seen;
        dust.seen = n;
        return had;
    }

    public int fits() {
        return dust.search(now);
    }

    public int floors(int p) {
        if (!isLodger(p)) {
            return BAD;
        }
        dust.search(now);
        return dust.floorBits[p];
    }

    // ---- by a seed

    public int drift(int seed, int n, int what) {
        if (!within(n, 1, MOST_DAYS) || !within(what, 0, 1)) {
            return BAD;
        }
        if (now.lodgers == 0) {
            return STATE;
        }
        trial.copyFrom(now);
        int went = 0;
        int s = seed;
        for (int t = 0; t < n; t++) {
            s = s * 1103515245 + 12345;
            if (climber.goes(trial, (s >>> 16 & 0x7fff) % now.lodgers)) {
                went++;
            }
        }
        return what == 0 ? went : trial.brokenBits();
    }

    // ---- images, sheets

    public int keep(int k) {
        if (!within(k, 0, IMAGES - 1)) {
            return BAD;
        }
        int was = kept[k] ? 1 : 0;
        images[k].copyFrom(now);
        kept[k] = true;
        return was;
    }

    public int back(int k) {
        if (!within(k, 0, IMAGES - 1)) {
            return BAD;
        }
        if (!kept[k]) {
            return STATE;
        }
        now.copyFrom(images[k]);
        return now.dayNumber;
    }

    public int sheet(int k, int lane, int n) {
        if (!isSheet(k) || !isLane(lane) || n > Sheet.MOST_CELLS) {
            return BAD;
        }
        if (n < 0) {
            return -10 - Sheet.SIZE;
        }
        sheets[k].renew(lane, n);
        return 1;
    }

    public int lay(int k, int i, int v) {
        if (!isSheet(k)) {
            return BAD;
        }
        int found = sheets[k].faultAt(i);
        if (found != 0) {
            return -10 - found;
        }
        sheets[k].put(i, v);
        return 1;
    }

    public int read(int k, int lane, int f, int n) {
        if (!isSheet(k) || !isLane(lane) || !within(n, 0, MOST_READ)) {
            return BAD;
        }
        Sheet row = sheets[k];
        trial.copyFrom(now);
        int found = 0;
        int did = 0;
        // A FAULT is met only where a LODGER is read: a read of none has nothing that could be refused.
        for (int i = 0; i < n && found == 0; i++) {
            found = row.faultAs(lane, f + i);
            if (found == 0) {
                int p = row.cells[f + i];
                if (!isLodger(p) || !climber.goes(trial, p)) {
                    return -20 - i;
                }
                did++;
            }
        }
        now.copyFrom(trial);
        readFault = found;
        return did;
    }

    public int torn() {
        return readFault;
    }

    public int count(int what) {
        switch (what) {
            case 0: return dust.seen;
            case 1: return countImages();
            case 2: return tape.length;
            case 3: return sheets[0].isNothing() ? NONE : sheets[0].size;
            case 4: return Integer.bitCount(now.brokenBits());
            case 5: return now.allWear();
            case 6: return Integer.bitCount(now.homeBits());
            default: return BAD;
        }
    }

    // ---- what a number may be

    private boolean isStep(int i) {
        return within(i, 0, now.steps - 1);
    }

    private boolean isLodger(int p) {
        return within(p, 0, now.lodgers - 1);
    }

    private static boolean isSheet(int k) {
        return within(k, 0, SHEETS - 1);
    }

    private static boolean isLane(int lane) {
        return within(lane, 0, LANES - 1);
    }

    private static boolean within(int v, int least, int most) {
        return v >= least && v <= most;
    }

    private void forgetImages() {
        for (int k = 0; k < IMAGES; k++) {
            kept[k] = false;
        }
    }

    private int countImages() {
        int n = 0;
        for (int k = 0; k < IMAGES; k++) {
            if (kept[k]) {
                n++;
            }
        }
        return n;
    }

    private static int exchanged(int[] row, int i, int v) {
        int was = row[i];
        row[i] = v;
        return was;
    }

    /** A path is the bits of its STEPS: its STEP k is the k-th bit from below. */
    private static int stepOfPath(int path, int k) {
        int rest = path;
        for (int t = 0; t < k; t++) {
            rest &= rest - 1;
        }
        return rest == 0 ? NONE : Integer.numberOfTrailingZeros(rest);
    }

    /** STEPS, LODGERS and laws as they are at one time. */
    private static final class House {
        int steps = 0;
        int lodgers = 0;
        int gapLaw = 1;
        int holdLaw = 30;
        int dayNumber = 0;
        final int[] kinds = new int[MOST_STEPS];
        final int[] years = new int[MOST_STEPS];
        final int[] wears = new int[MOST_STEPS];
        final int[] legsOf = new int[MOST_LODGERS];
        final int[] rankOf = new int[MOST_LODGERS];
        final int[] loadOf = new int[MOST_LODGERS];
        final int[] floorOf = new int[MOST_LODGERS];

        void empty() {
            steps = 0;
            lodgers = 0;
            gapLaw = 1;
            holdLaw = 30;
            dayNumber = 0;
        }

        void copyFrom(House other) {
            steps = other.steps;
            lodgers = other.lodgers;
            gapLaw = other.gapLaw;
            holdLaw = other.holdLaw;
            dayNumber = other.dayNumber;
            System.arraycopy(other.kinds, 0, kinds, 0, MOST_STEPS);
            System.arraycopy(other.years, 0, years, 0, MOST_STEPS);
            System.arraycopy(other.wears, 0, wears, 0, MOST_STEPS);
            System.arraycopy(other.legsOf, 0, legsOf, 0, MOST_LODGERS);
            System.arraycopy(other.rankOf, 0, rankOf, 0, MOST_LODGERS);
            System.arraycopy(other.loadOf, 0, loadOf, 0, MOST_LODGERS);
            System.arraycopy(other.floorOf, 0, floorOf, 0, MOST_LODGERS);
        }

        void addStep(int kind, int itsYears, int itsWear) {
            if (steps < MOST_STEPS) {
                kinds[steps] = kind;
                years[steps] = itsYears;
                wears[steps] = itsWear;
                steps++;
            }
        }

        void addLodger(int itsLegs, int itsRank, int itsLoad, int itsFloor) {
            if (lodgers < MOST_LODGERS) {
                legsOf[lodgers] = itsLegs;
                rankOf[lodgers] = itsRank;
                loadOf[lodgers] = itsLoad;
                floorOf[lodgers] = itsFloor;
                lodgers++;
            }
        }

        void renew(int i) {
            years[i] = 0;
            wears[i] = 0;
        }

        int rankOfStep(int i) {
            int asWood = Math.min(years[i] / 10, MOST_RANK);
            switch (kinds[i]) {
                case 0: return asWood;
                case 2: return 0;
                default: return Math.min(asWood + 1, MOST_RANK);
            }
        }

        boolean isBroken(int i) {
            return wears[i] >= holdLaw;
        }

        int brokenBits() {
            int bits = 0;
            for (int i = 0; i < steps; i++) {
                if (isBroken(i)) {
                    bits |= 1 << i;
                }
            }
            return bits;
        }

        int mostWear() {
            int most = 0;
            for (int i = 0; i < steps; i++) {
                most = Math.max(most, wears[i]);
            }
            return most;
        }

        int allWear() {
            int sum = 0;
            for (int i = 0; i < steps; i++) {
                sum += wears[i];
            }
            return sum;
        }

        boolean isHeavy(int p) {
            return loadOf[p] >= HEAVY_LOAD;
        }

        int reachOf(int p) {
            return isHeavy(p) ? Math.max(legsOf[p] - 1, 1) : legsOf[p];
        }

        int treadBits(int p) {
            int bits = 0;
            for (int i = 0; i < steps; i++) {
                if (!isBroken(i) && isNear(p, i)) {
                    bits |= 1 << i;
                }
            }
            return bits;
        }

        private boolean isNear(int p, int i) {
            return kinds[i] == LANDING || Math.abs(rankOfStep(i) - rankOf[p]) <= gapLaw;
        }

        boolean getsHome(int p) {
            return getsHomeBy(p, treadBits(p));
        }

        /** Whether the LODGER has a CLIMB, were these the STEPS that he MAY TREAD. */
        boolean getsHomeBy(int p, int treads) {
            int span = (1 << reachOf(p)) - 1;
            // Bit 0 is the place just passed, 1 the one below it; at first it is the ground.
            int stands = 1;
            for (int i = 0; i <= floorOf[p]; i++) {
                boolean on = (treads >> i & 1) != 0 && (stands & span) != 0;
                stands = stands << 1 | (on ? 1 : 0);
            }
            return (stands & 1) != 0;
        }

        int homeBits() {
            int bits = 0;
            for (int p = 0; p < lodgers; p++) {
                if (getsHome(p)) {
                    bits |= 1 << p;
                }
            }
            return bits;
        }

        void wearBy(int p, int path) {
            int extra = isHeavy(p) ? 1 : 0;
            for (int i = 0; i < steps; i++) {
                if ((path >> i & 1) != 0 && kinds[i] != LANDING) {
                    wears[i] = Math.min(wears[i] + 2 - kinds[i] + extra, MOST_WEAR);
                }
            }
        }
    }

    /** CLIMBS of LODGERS; a path is the bits of its STEPS, 0 is none. */
    private static final class Climber {
        private final int[] paths = new int[MOST_STEPS];
        private final int[] row = new int[MOST_STEPS];

        int shortest(House house, int p) {
            int top = house.floorOf[p];
            findPaths(house.treadBits(p), house.reachOf(p), top, paths);
            return paths[top];
        }

        /** The SHORTEST path to each STEP up to the top, from that of the STEPS below it. */
        static void findPaths(int treads, int reach, int top, int[] into) {
            for (int i = 0; i <= top; i++) {
                boolean treadable = (treads >> i & 1) != 0;
                // From the ground up in one go is shorter than by any STEP below.
                int below = treadable && i >= reach ? shortestOf(into, i - reach, i) : 0;
                into[i] = treadable && (i < reach || below != 0) ? below | 1 << i : 0;
            }
        }

        private static int shortestOf(int[] some, int from, int to) {
            int least = 0;
            for (int j = from; j < to; j++) {
                least = shorter(least, some[j]);
            }
            return least;
        }

        private static int shorter(int a, int b) {
            if (a == 0 || b == 0) {
                return a | b;
            }
            int more = Integer.bitCount(a) - Integer.bitCount(b);
            if (more != 0) {
                return more < 0 ? a : b;
            }
            // Of two as long, the one with the lowest STEP that they do not share is first by numbers.
            int lowest = (a ^ b) & -(a ^ b);
            return (a & lowest) != 0 ? a : b;
        }

        int countClimbs(House house, int p) {
            int treads = house.treadBits(p);
            int reach = house.reachOf(p);
            int top = house.floorOf[p];
            for (int i = 0; i <= top; i++) {
                row[i] = 0;
                if ((treads >> i & 1) != 0) {
                    int sum = i < reach ? 1 : 0;
                    for (int j = Math.max(i - reach, 0); j < i; j++) {
                        sum += row[j];
                    }
                    row[i] = sum;
                }
            }
            return row[top];
        }

        /** The WEAR of the most worn STEP where it is least; above MOST_WEAR: there is no CLIMB. */
        int leastWorst(House house, int p) {
            int treads = house.treadBits(p);
            int reach = house.reachOf(p);
            int top = house.floorOf[p];
            for (int i = 0; i <= top; i++) {
                row[i] = MOST_WEAR + 1;
                if ((treads >> i & 1) != 0) {
                    int below = i < reach ? 0 : MOST_WEAR + 1;
                    for (int j = Math.max(i - reach, 0); j < i; j++) {
                        below = Math.min(below, row[j]);
                    }
                    row[i] = Math.max(below, house.wears[i]);
                }
            }
            return row[top];
        }

        int fewestWithin(House house, int p, int mostWorn) {
            int treads = house.treadBits(p);
            int top = house.floorOf[p];
            for (int i = 0; i < house.steps; i++) {
                if (house.wears[i] > mostWorn) {
                    treads &= ~(1 << i);
                }
            }
            findPaths(treads, house.reachOf(p), top, paths);
            return Integer.bitCount(paths[top]);
        }

        /** The LODGER goes by his SHORTEST CLIMB and wears it: whether there is one. */
        boolean goes(House house, int p) {
            int path = shortest(house, p);
            house.wearBy(p, path);
            return path != 0;
        }

        int goDays(House house, int n) {
            int made = 0;
            for (int d = 0; d < n; d++) {
                for (int p = 0; p < house.lodgers; p++) {
                    if (goes(house, p)) {
                        made++;
                    }
                }
                house.dayNumber++;
            }
            return made;
        }
    }

    /** FLOORS changed round among LODGERS. */
    private static final class Exchange {
        int bestHave = 0;
        int bestSteps = 0;
        /** Whose FLOOR each LODGER takes. */
        final int[] bestTakes = new int[MOST_LODGERS];
        private final int[] takes = new int[MOST_LODGERS];
        private final int[] paths = new int[MOST_STEPS];
        /** How many STEPS the LODGER p has to the FLOOR of q, at p times MOST_LODGERS and q; 0 is no CLIMB. */
        private final int[] lengths = new int[MOST_LODGERS * MOST_LODGERS];

        void arrange(House house) {
            for (int p = 0; p < house.lodgers; p++) {
                Climber.findPaths(house.treadBits(p), house.reachOf(p), house.steps - 1, paths);
                for (int q = 0; q < house.lodgers; q++) {
                    lengths[p * MOST_LODGERS + q] = Integer.bitCount(paths[house.floorOf[q]]);
                }
            }
            bestHave = -1;
            bestSteps = 0;
            takeFrom(0, house.lodgers, 0, 0, 0);
        }

        /** The LODGERS from p on take FLOORS not yet taken, in order, so that the first of equals stays. */
        private void takeFrom(int p, int lodgers, int taken, int have, int steps) {
            if (p >= lodgers || p >= MOST_LODGERS) {
                if (have > bestHave || (have == bestHave && steps < bestSteps)) {
                    bestHave = have;
                    bestSteps = steps;
                    System.arraycopy(takes, 0, bestTakes, 0, MOST_LODGERS);
                }
                return;
            }
            for (int q = 0; q < lodgers; q++) {
                if ((taken >> q & 1) == 0) {
                    int length = lengths[p * MOST_LODGERS + q];
                    takes[p] = q;
                    takeFrom(p + 1, lodgers, taken | 1 << q, have + (length > 0 ? 1 : 0), steps + length);
                }
            }
        }
    }

    /** How likely LODGERS get home, in parts of WHOLE. */
    private static final class Chances {
        static final int TENTHS = 10;
        /** Ten STEPS at most, each with odds out of ten. */
        private static final long WHOLE = 10000000000L;
        /** More turns than Euclid's way needs for any two longs. */
        private static final int MOST_TURNS = 100;
        /** Which of the last four STEPS one can stand on: as far back as anybody REACHES. */
        private static final int STANDS = 1 << MOST_LEGS;
        private final long[] shares = new long[STANDS];
        private final long[] above = new long[STANDS];

        long ofHome(House house, int p, int v) {
            int treads = house.treadBits(p);
            int span = (1 << house.reachOf(p)) - 1;
            Arrays.fill(shares, 0L);
            shares[1] = WHOLE;
            for (int i = 0; i <= house.floorOf[p]; i++) {
                int out = house.kinds[i] == LANDING ? 0 : v;
                passStep((treads >> i & 1) != 0 ? span : 0, out);
            }
            long home = 0;
            for (int s = 1; s < STANDS; s += 2) {
                home += shares[s];
            }
            return home;
        }

        private void passStep(int span, int out) {
            Arrays.fill(above, 0L);
            for (int s = 0; s < STANDS; s++) {
                int off = s << 1 & STANDS - 1;
                if ((s & span) == 0) {
                    above[off] += shares[s];
                } else {
                    long part = shares[s] / TENTHS * out;
                    above[off] += part;
                    above[off | 1] += shares[s] - part;
                }
            }
            System.arraycopy(above, 0, shares, 0, STANDS);
        }

        /** Above (what 0) or below (1) the line of so many parts of WHOLE, in lowest terms. */
        static long lowest(long parts, int what) {
            long a = WHOLE;
            long b = parts;
            for (int t = 0; t < MOST_TURNS && b != 0; t++) {
                long rest = a % b;
                a = b;
                b = rest;
            }
            if (a == 0) {
                return 0;
            }
            return (what == 0 ? parts : WHOLE) / a;
        }
    }

    /** What was SEEN, and the FLOORS that FIT it. */
    private static final class Dust {
        static final int MOST_MORE = 40;
        private static final int MOST_SEEN = 6;
        private static final int MOST_BY_A_CLIMB = 3;
        int seen = 0;
        /** Of each LODGER, the FLOORS that he can have. */
        final int[] floorBits = new int[MOST_LODGERS];
        private final int[] seenSteps = new int[MOST_SEEN];
        private final int[] seenMore = new int[MOST_SEEN];
        private final House trial = new House();
        /** WEAR ahead of each LODGER's CLIMB, the last one behind all. */
        private final int[][] wearsAt = new int[MOST_LODGERS + 1][MOST_STEPS];
        private final int[][] pathsAt = new int[MOST_LODGERS][MOST_STEPS];

        int note(int i, int more) {
            if (seen >= MOST_SEEN) {
                return FULL;
            }
            seenSteps[seen] = i;
            seenMore[seen] = more;
            seen++;
            return seen;
        }

        /** How many FLOORS of all FIT; floorBits tells which. */
        int search(House house) {
            trial.copyFrom(house);
            Arrays.fill(floorBits, 0);
            System.arraycopy(house.wears, 0, wearsAt[0], 0, MOST_STEPS);
            return searchFrom(0);
        }

        /** The LODGERS from p on; WEAR of the trial is as it is ahead of him. */
        private int searchFrom(int p) {
            if (!canBeSo(p)) {
                return 0;
            }
            if (p >= trial.lodgers || p >= MOST_LODGERS) {
                return 1;
            }
            int[] paths = pathsAt[p];
            Climber.findPaths(trial.treadBits(p), trial.reachOf(p), trial.steps - 1, paths);
            int all = 0;
            // Who has no CLIMB stays below, whatever his FLOOR is: one look serves for all such.
            int ifBelow = -1;
            for (int i = 0; i < trial.steps; i++) {
                int fitting = paths[i] == 0 ? ifBelow : -1;
                if (fitting < 0) {
                    fitting = searchBehind(p, paths[i]);
                }
                if (paths[i] == 0) {
                    ifBelow = fitting;
                }
                if (fitting > 0) {
                    floorBits[p] |= 1 << i;
                }
                all += fitting;
            }
            return all;
        }

        private int searchBehind(int p, int path) {
            System.arraycopy(wearsAt[p], 0, trial.wears, 0, MOST_STEPS);
            trial.wearBy(p, path);
            System.arraycopy(trial.wears, 0, wearsAt[p + 1], 0, MOST_STEPS);
            return searchFrom(p + 1);
        }

        /** WEAR never gets less, and by no CLIMB more than so much; behind all, nothing may be missing. */
        private boolean canBeSo(int level) {
            int most = MOST_BY_A_CLIMB * (trial.lodgers - level);
            for (int k = 0; k < seen; k++) {
                int i = seenSteps[k];
                int missing = seenMore[k] - (wearsAt[level][i] - wearsAt[0][i]);
                if (missing < 0 || missing > most) {
                    return false;
                }
            }
            return true;
        }
    }

    /** A row of CELLS of a lane, or nothing. */
    private static final class Sheet {
        static final int MOST_CELLS = 40;
        static final int SIZE = 4;
        private static final int NULL = 1;
        private static final int INDEX = 2;
        private static final int CAST = 3;
        private static final int NO_LANE = -1;
        int size = 0;
        final int[] cells = new int[MOST_CELLS];
        private int itsLane = NO_LANE;

        boolean isNothing() {
            return itsLane == NO_LANE;
        }

        void renew(int lane, int n) {
            itsLane = lane;
            size = n;
            Arrays.fill(cells, 0);
        }

        /** What the machine finds when a CELL is read of the row taken as of a lane: nothing is of any. */
        int faultAs(int lane, int i) {
            return isNothing() || itsLane == lane ? faultAt(i) : CAST;
        }

        int faultAt(int i) {
            if (isNothing()) {
                return NULL;
            }
            return i < 0 || i >= size ? INDEX : 0;
        }

        void put(int i, int v) {
            switch (itsLane) {
                case 0: cells[i] = (byte) v; break;
                case 1: cells[i] = (short) v; break;
                default: cells[i] = v; break;
            }
        }
    }

    /** THE TAPE, and how it is read. */
    private static final class Tape {
        private static final int MOST_BYTES = 160;
        private static final int NO_TOKEN = 0, NAME = 1, NUMBER = 2, CLOSE = 3, OVER = 4;
        private static final int MOST_FIGURES = 2;
        /** Lines 0 to 3 are the KINDS of STEPS. */
        private static final int LODGER_LINE = 4, GAP_LINE = 5, HOLD_LINE = 6, LINE_KINDS = 7;
        private static final int MOST_NUMBERS = 4;
        private static final int[] NUMBERS = {2, 2, 2, 2, 4, 1, 1};
        /** Bounds of the numbers of each line, at the line times MOST_NUMBERS and the number's place. */
        private static final int[] LEAST = {
            0, 0, 0, 0, 0, 0, 0, 0, 0, 0, 0, 0, 0, 0, 0, 0, 1, 0, 0, 0, 0, 0, 0, 0, 1, 0, 0, 0};
        private static final int[] MOST = {
            60, 99, 0, 0, 60, 99, 0, 0, 60, 99, 0, 0, 60, 99, 0, 0, 4, 3, 9, 9, 3, 0, 0, 0, 99, 0, 0, 0};

        int length = 0;
        /** The FAULT of the latest text, 0 is none. */
        int found = 0;
        private int foundAt = 0;
        private final byte[] bytes = new byte[MOST_BYTES];
        private final int[] numbers = new int[MOST_NUMBERS];
        private int place = 0;
        private int token = NO_TOKEN;
        private int tokenAt = 0;
        private boolean gapTold = false;
        private boolean holdTold = false;

        int put(int c) {
            if (length >= MOST_BYTES) {
                return FULL;
            }
            bytes[length] = (byte) c;
            length++;
            return length;
        }

        /** How many lines THE TAPE tells of the house; -10 less the place of its FAULT. */
        int tell(House house) {
            house.empty();
            found = 0;
            foundAt = 0;
            place = 0;
            gapTold = false;
            holdTold = false;
            int lines = 0;
            takeToken();
            // A line has one byte at least.
            while (found == 0 && token != OVER && lines < MOST_BYTES) {
                takeLine(house);
                takeTokenIfSound();
                lines++;
            }
            if (found == 0 && hasLostFloor(house)) {
                refuse(6, length);
            }
            length = 0;
            return found == 0 ? lines : -10 - foundAt;
        }

        private static boolean hasLostFloor(House house) {
            for (int p = 0; p < house.lodgers; p++) {
                if (house.floorOf[p] >= house.steps) {
                    return true;
                }
            }
            return false;
        }

        private void takeLine(House house) {
            int line = token == NAME ? lineOfName() : LINE_KINDS;
            if (line >= LINE_KINDS) {
                refuse(2, tokenAt);
                return;
            }
            refuseOneTooMany(house, line);
            for (int k = 0; k < NUMBERS[line] && found == 0; k++) {
                takeToken();
                takeNumber(line, k);
            }
            takeTokenIfSound();
            if (found == 0 && token != CLOSE) {
                refuse(2, tokenAt);
            }
            if (found == 0) {
                tellLine(house, line);
            }
        }

        private void refuseOneTooMany(House house, int line) {
            if ((line == GAP_LINE && gapTold) || (line == HOLD_LINE && holdTold)) {
                refuse(4, tokenAt);
            } else if ((line < MOST_KINDS && house.steps >= MOST_STEPS)
                    || (line == LODGER_LINE && house.lodgers >= MOST_LODGERS)) {
                refuse(5, tokenAt);
            }
        }

        private void takeNumber(int line, int k) {
            if (found != 0) {
                return;
            }
            if (token != NUMBER) {
                refuse(2, tokenAt);
                return;
            }
            int v = 0;
            for (int i = tokenAt; i < place; i++) {
                v = v * 10 + bytes[i] - '0';
            }
            int bound = line * MOST_NUMBERS + k;
            if (v < LEAST[bound] || v > MOST[bound]) {
                refuse(3, tokenAt);
            }
            numbers[k] = v;
        }

        private void tellLine(House house, int line) {
            switch (line) {
                case LODGER_LINE:
                    house.addLodger(numbers[0], numbers[1], numbers[2], numbers[3]);
                    break;
                case GAP_LINE:
                    house.gapLaw = numbers[0];
                    gapTold = true;
                    break;
                case HOLD_LINE:
                    house.holdLaw = numbers[0];
                    holdTold = true;
                    break;
                default:
                    house.addStep(line, numbers[0], numbers[1]);
                    break;
            }
        }

        private void takeTokenIfSound() {
            if (found == 0) {
                takeToken();
            }
        }

        private void takeToken() {
            while (place < length && bytes[place] == ' ') {
                place++;
            }
            tokenAt = place;
            token = place < length ? kindOfByte(bytes[place]) : OVER;
            if (token == NO_TOKEN) {
                refuse(1, tokenAt);
            } else if (token == CLOSE) {
                place++;
            } else if (token != OVER) {
                while (place < length && kindOfByte(bytes[place]) == token) {
                    place++;
                }
                if (token == NUMBER && place - tokenAt > MOST_FIGURES) {
                    refuse(1, tokenAt);
                }
            }
        }

        private static int kindOfByte(int c) {
            if (c >= 'a' && c <= 'z') {
                return NAME;
            }
            if (c >= '0' && c <= '9') {
                return NUMBER;
            }
            return c == ';' ? CLOSE : NO_TOKEN;
        }

        /** Which line the NAME begins; LINE_KINDS: none. */
        private int lineOfName() {
            for (int line = 0; line < LINE_KINDS; line++) {
                if (isTokenNamed(nameOfLine(line))) {
                    return line;
                }
            }
            return LINE_KINDS;
        }

        private boolean isTokenNamed(String name) {
            if (place - tokenAt != name.length()) {
                return false;
            }
            for (int i = 0; i < name.length(); i++) {
                if (bytes[tokenAt + i] != name.charAt(i)) {
                    return false;
                }
            }
            return true;
        }

        private static String nameOfLine(int line) {
            switch (line) {
                case 0: return "wood";
                case 1: return "stone";
                case 2: return "iron";
                case 3: return "landing";
                case LODGER_LINE: return "lodger";
                case GAP_LINE: return "gap";
                default: return "hold";
            }
        }

        private void refuse(int fault, int at) {
            found = fault;
            foundAt = at;
        }
    }
}
