/** IMAGES and SHEETS: promises 38 to 44. */
final class SheetBoundaries {
    private static final int BAD = Bench.BAD, STATE = Bench.STATE, NONE = Bench.NONE;
    private static final int LOW = Bench.LOW, HIGH = Bench.HIGH;
    private static final int NULL = 1, INDEX = 2, CAST = 3;
    /** Three LODGERS, each at a FLOOR of stone that he alone treads. */
    private static final String HOUSE = "stone 0 0;stone 0 0;stone 0 0;lodger 1 0 0 0;lodger 2 0 0 1;lodger 3 0 0 2;"
        + "hold 99;";

    private SheetBoundaries() {
    }

    static void run() {
        keeps();
        backs();
        backsAll();
        sheets();
        newRows();
        sizes();
        lays();
        lowestBits();
        reads();
        badReads();
        readsOfMany();
        faultsOfReads();
        machineRefuses();
        noLodger();
        noClimb();
        torn();
        counts();
        countsOfSheet();
    }

    private static void keeps() {
        Bench.promise(38, "IMAGE k (0, 1) is STEPS (YEARS, WEAR), LODGERS, GAP, HOLD, DAY: whether there was one "
            + "(1, 0). BAD.");
        RankStairs x = new RankStairs();
        for (int k : new int[] {-1, 2, LOW, HIGH}) {
            Bench.due(BAD, x.keep(k));
        }
        Bench.due(0, x.count(1));
        Bench.due(0, x.keep(0));
        Bench.due(1, x.count(1));
        Bench.due(1, x.keep(0));
        Bench.due(STATE, x.back(1));
        Bench.due(0, x.keep(1));
        Bench.due(1, x.keep(1));
        Bench.due(2, x.count(1));
        // A text that is taken leaves none.
        Bench.due(0, x.text());
        Bench.due(0, x.keep(1));
        Bench.due(0, x.keep(0));
    }

    private static void backs() {
        Bench.promise(39, "All is as IMAGE k: DAY. BAD; STATE: there is none.");
        RankStairs x = Bench.told("iron 0 0;");
        Bench.due(STATE, x.back(0));
        Bench.due(STATE, x.back(1));
        for (int k : new int[] {-1, 2, LOW, HIGH}) {
            Bench.due(BAD, x.back(k));
        }
        x.keep(1);
        Bench.due(STATE, x.back(0));
        Bench.due(0, x.back(1));
        x.day(60);
        x.keep(0);
        x.day(1);
        Bench.due(60, x.back(0));
        Bench.due(60, x.rule(4));
        Bench.due(0, x.back(1));
        Bench.due(0, x.rule(4));
        for (int t = 0; t < 16; t++) {
            x.day(60);
        }
        x.day(39);
        x.keep(1);
        Bench.due(60, x.back(0));
        Bench.due(999, x.back(1));
    }

    private static void backsAll() {
        Bench.promise(38, "STEPS (YEARS, WEAR), LODGERS, GAP, HOLD, DAY");
        RankStairs x = Bench.told("wood 12 3;lodger 2 1 4 0;stone 60 99;lodger 1 3 9 1;gap 2;hold 40;");
        x.keep(0);
        x.see(0, 1);
        x.sheet(0, 0, 2);
        x.feed(' ');
        // Some of it is changed, at the first and at the last; the image is not.
        x.age(0, 0);
        x.wear(0, 0);
        x.mend(1);
        for (int p = 0; p < 2; p++) {
            x.rank(p, 2);
            x.load(p, 1);
            x.move(p, 1 - p);
        }
        x.law(0, 0);
        x.law(1, 1);
        x.day(3);
        x.year();
        Bench.due(0, x.back(0));
        int[] rules = {2, 2, 2, 40, 0};
        for (int what = 0; what <= 4; what++) {
            Bench.due(rules[what], x.rule(what));
        }
        int[][] steps = {{0, 12, 3}, {1, 60, 99}};
        int[][] lodgers = {{2, 1, 4, 0}, {1, 3, 9, 1}};
        for (int k = 0; k < 2; k++) {
            for (int what = 0; what <= 2; what++) {
                Bench.due(steps[k][what], x.step(k, what));
            }
            for (int what = 0; what <= 3; what++) {
                Bench.due(lodgers[k][what], x.lodger(k, what));
            }
        }
        // What is no part of an IMAGE stays.
        Bench.due(1, x.count(0));
        Bench.due(1, x.count(1));
        Bench.due(1, x.count(2));
        Bench.due(2, x.count(3));
        // Once more: what came back is changed, the IMAGE is not.
        x.wear(0, 9);
        Bench.due(0, x.back(0));
        Bench.due(3, x.step(0, 2));
    }

    private static void sheets() {
        Bench.promise(40, "A SHEET is a new row of CELLS 0: 1. BAD: also n above 40; -10 - 4.");
        Bench.terms("SHEETS 0 to 3 are rows of BYTES (lane 0), SHORTS (1), INTS (2) with 0 to 40 CELLS, or nothing "
            + "(at first).");
        RankStairs x = new RankStairs();
        for (int k : new int[] {-1, 4, LOW, HIGH}) {
            Bench.due(BAD, x.sheet(k, 0, 1));
        }
        for (int lane : new int[] {-1, 3, LOW, HIGH}) {
            Bench.due(BAD, x.sheet(0, lane, 1));
        }
        Bench.due(NONE, x.count(3));
        for (int k = 0; k < 4; k++) {
            Bench.due(-11, x.lay(k, 0, 0));
            for (int lane = 0; lane < 3; lane++) {
                for (int n : new int[] {0, 1, 39, 40}) {
                    Bench.due(1, x.sheet(k, lane, n));
                    Bench.due(n == 0 ? -12 : 1, x.lay(k, n - 1, 0));
                    Bench.due(-12, x.lay(k, n, 0));
                }
            }
        }
    }

    private static void newRows() {
        Bench.promise(40, "a new row of CELLS 0");
        RankStairs x = Bench.told(HOUSE);
        x.sheet(1, 0, 3);
        for (int i = 0; i < 3; i++) {
            x.lay(1, i, 2);
        }
        Bench.due(3, x.read(1, 0, 0, 3));
        Bench.due(3, x.step(2, 2));
        Bench.due(1, x.sheet(1, 0, 3));
        Bench.due(3, x.read(1, 0, 0, 3));
        Bench.due(3, x.step(0, 2));
        Bench.due(3, x.step(2, 2));
        // A row that was cut and made longer again is as new, too.
        x.lay(1, 2, 2);
        x.sheet(1, 0, 1);
        x.sheet(1, 0, 3);
        Bench.due(3, x.read(1, 0, 0, 3));
        Bench.due(3, x.step(2, 2));
    }

    private static void sizes() {
        Bench.terms("4 SIZE (below 0)");
        RankStairs x = new RankStairs();
        for (int n : new int[] {-1, -2, -41, LOW}) {
            Bench.due(-14, x.sheet(0, 0, n));
        }
        Bench.due(NONE, x.count(3));
        Bench.due(1, x.sheet(0, 0, 0));
        Bench.due(0, x.count(3));
        Bench.due(1, x.sheet(0, 2, 40));
        for (int n : new int[] {41, 42, HIGH}) {
            Bench.due(BAD, x.sheet(0, 0, n));
        }
        Bench.due(-14, x.sheet(0, 0, -1));
        Bench.due(40, x.count(3));
        Bench.due(0, x.torn());
        // It is of the lane that it had.
        Bench.due(0, x.read(0, 0, 0, 1));
        Bench.due(CAST, x.torn());
    }

    private static void lays() {
        Bench.promise(41, "1. BAD: k; -10 less the FAULT: NULL, INDEX.");
        RankStairs x = new RankStairs();
        for (int k : new int[] {-1, 4, LOW, HIGH}) {
            Bench.due(BAD, x.lay(k, 0, 0));
        }
        for (int k = 0; k < 4; k++) {
            for (int i : new int[] {-1, 0, 40}) {
                Bench.due(-11, x.lay(k, i, 0));
            }
            x.sheet(k, k % 3, 2 + k);
            Bench.due(1, x.lay(k, 0, HIGH));
            Bench.due(1, x.lay(k, 1 + k, LOW));
            for (int i : new int[] {-1, 2 + k, 40, LOW, HIGH}) {
                Bench.due(-12, x.lay(k, i, 0));
            }
        }
        Bench.due(0, x.torn());
    }

    private static void lowestBits() {
        Bench.promise(41, "CELL i of a SHEET becomes v (its lowest bits)");
        RankStairs x = Bench.told(HOUSE);
        // What is laid, and which LODGER it is as a BYTE, a SHORT, an INT; -1 is none.
        int[][] laid = {{2, 2, 2, 2}, {-1, -1, -1, -1}, {127, -1, -1, -1}, {128, -1, -1, -1}, {255, -1, -1, -1},
            {256, 0, -1, -1}, {258, 2, -1, -1}, {-254, 2, -1, -1}, {-256, 0, -1, -1}, {32767, -1, -1, -1},
            {32768, 0, -1, -1}, {65535, -1, -1, -1}, {65536, 0, 0, -1}, {65538, 2, 2, -1}, {-65534, 2, 2, -1},
            {LOW, 0, 0, -1}, {LOW + 1, 1, 1, -1}, {HIGH, -1, -1, -1}};
        for (int lane = 0; lane < 3; lane++) {
            x.sheet(lane, lane, 3);
            for (int[] v : laid) {
                Bench.due(1, x.lay(lane, 1, v[0]));
                int who = v[1 + lane];
                int was = who < 0 ? 0 : x.step(who, 2);
                Bench.due(who < 0 ? -20 : 1, x.read(lane, lane, 1, 1));
                if (who >= 0) {
                    Bench.due(was + 1, x.step(who, 2));
                }
            }
            // The CELLS beside it are 0 as before.
            Bench.due(1, x.read(lane, lane, 0, 1));
            Bench.due(1, x.read(lane, lane, 2, 1));
        }
    }

    private static void reads() {
        Bench.promise(42, "n (0 to 20) LODGERS are read of a SHEET taken as of a lane, from CELL f on");
        RankStairs x = Bench.told(HOUSE);
        for (int lane = 0; lane < 3; lane++) {
            x.sheet(1, lane, 40);
            Bench.due(0, x.read(1, lane, 0, 0));
            Bench.due(1, x.read(1, lane, 0, 1));
            Bench.due(20, x.read(1, lane, 0, 20));
            for (int n : new int[] {-1, 21, LOW, HIGH}) {
                Bench.due(BAD, x.read(1, lane, 0, n));
            }
            Bench.due(21, x.step(0, 2));
            x.wear(0, 0);
        }
        // From the first CELL and from the last; by the last 20 of 40.
        Bench.due(20, x.read(1, 2, 20, 20));
        Bench.due(0, x.torn());
        Bench.due(19, x.read(1, 2, 21, 20));
        Bench.due(INDEX, x.torn());
        Bench.due(1, x.read(1, 2, 39, 1));
        Bench.due(0, x.torn());
        Bench.due(40, x.step(0, 2));
        Bench.due(0, x.rule(4));
    }

    private static void badReads() {
        Bench.promise(42, "BAD: k, lane, n;");
        RankStairs x = Bench.told(HOUSE);
        for (int k = 0; k < 4; k++) {
            x.sheet(k, k % 3, 1);
            Bench.due(1, x.read(k, k % 3, 0, 1));
        }
        for (int n : new int[] {0, 1}) {
            for (int k : new int[] {-1, 4, LOW, HIGH}) {
                Bench.due(BAD, x.read(k, 0, 0, n));
            }
            for (int lane : new int[] {-1, 3, LOW, HIGH}) {
                Bench.due(BAD, x.read(0, lane, 0, n));
            }
        }
        for (int n : new int[] {-1, 21, LOW, HIGH}) {
            Bench.due(BAD, x.read(0, 0, 0, n));
        }
        Bench.due(4, x.count(5));
        // f alone is nothing that is BAD.
        for (int f : new int[] {-1, 1, LOW, HIGH}) {
            Bench.due(0, x.read(0, 0, f, 1));
        }
    }

    private static void readsOfMany() {
        Bench.promise(42, "one behind another each goes by his SHORTEST CLIMB: how many did");
        RankStairs x = Bench.told(HOUSE);
        x.sheet(0, 0, 4);
        int[] who = {2, 0, 2, 1};
        for (int i = 0; i < 4; i++) {
            x.lay(0, i, who[i]);
        }
        Bench.due(4, x.read(0, 0, 0, 4));
        Bench.due(1, x.step(0, 2));
        Bench.due(1, x.step(1, 2));
        Bench.due(2, x.step(2, 2));
        Bench.due(2, x.read(0, 0, 2, 2));
        Bench.due(3, x.step(2, 2));
    }

    private static void faultsOfReads() {
        Bench.terms("A FAULT is what the machine finds: 1 NULL (nothing), 2 INDEX, 3 CAST (another lane)");
        RankStairs x = Bench.told(HOUSE);
        x.sheet(1, 1, 2);
        x.sheet(2, 2, 0);
        int[][] reads = {{0, 0, 0, NULL}, {0, 2, -1, NULL}, {3, 1, HIGH, NULL}, {1, 0, 0, CAST}, {1, 2, 1, CAST},
            {1, 0, 2, CAST}, {1, 2, -1, CAST}, {1, 1, 2, INDEX}, {1, 1, -1, INDEX}, {1, 1, LOW, INDEX},
            {1, 1, HIGH, INDEX}, {2, 2, 0, INDEX}, {2, 0, 0, CAST}};
        for (int[] r : reads) {
            for (int n : new int[] {1, 20}) {
                Bench.due(1, x.read(1, 1, 0, 1));
                Bench.due(0, x.torn());
                Bench.due(0, x.read(r[0], r[1], r[2], n));
                Bench.due(r[3], x.torn());
            }
        }
        // None of them did anything.
        Bench.due(2 * reads.length, x.count(5));
    }

    private static void machineRefuses() {
        Bench.promise(42, "What the machine refuses: those ahead did (its FAULT is asked by torn()).");
        RankStairs x = Bench.told(HOUSE);
        x.sheet(1, 1, 3);
        x.lay(1, 1, 1);
        x.lay(1, 2, 2);
        for (int n = 0; n <= 20; n++) {
            Bench.due(Math.min(n, 3), x.read(1, 1, 0, n));
            Bench.due(n <= 3 ? 0 : INDEX, x.torn());
        }
        Bench.due(20, x.step(0, 2));
        Bench.due(19, x.step(1, 2));
        Bench.due(18, x.step(2, 2));
        // A CELL below the first is refused ahead of all.
        Bench.due(0, x.read(1, 1, -1, 4));
        Bench.due(INDEX, x.torn());
        Bench.due(20, x.step(0, 2));
    }

    private static void noLodger() {
        Bench.promise(42, "-20 less i: the i-th is no LODGER, or has no CLIMB: then none did; the first met.");
        RankStairs x = Bench.told(HOUSE);
        x.sheet(0, 2, 20);
        for (int i = 19; i >= 0; i--) {
            // Behind him are others that are no LODGERS; a read that ends ahead of him does not meet him.
            Bench.due(1, x.lay(0, i, i % 2 == 0 ? 3 : -1));
            Bench.due(-20 - i, x.read(0, 2, 0, 20));
            Bench.due(-20 - i, x.read(0, 2, 0, i + 1));
            Bench.due(0, x.step(0, 2));
            Bench.due(i, x.read(0, 2, 0, i));
            Bench.due(i, x.step(0, 2));
            x.wear(0, 0);
        }
        x.sheet(0, 2, 3);
        x.lay(0, 2, 2);
        Bench.due(3, x.read(0, 2, 0, 3));
        x.lay(0, 2, 3);
        Bench.due(-22, x.read(0, 2, 0, 3));
        // He is met ahead of the end of the row, of which nothing is told.
        Bench.due(-22, x.read(0, 2, 0, 4));
        Bench.due(-20, x.read(0, 2, 2, 20));
        Bench.due(0, x.torn());
    }

    private static void noClimb() {
        Bench.promise(42, "or has no CLIMB: then none did");
        RankStairs x = Bench.told(HOUSE);
        x.law(1, 3);
        x.sheet(0, 0, 5);
        x.lay(0, 4, 1);
        // By the third CLIMB the FLOOR is BROKEN: the fourth has none.
        Bench.due(-23, x.read(0, 0, 0, 5));
        Bench.due(0, x.step(0, 2));
        Bench.due(0, x.step(1, 2));
        Bench.due(3, x.read(0, 0, 0, 3));
        Bench.due(3, x.step(0, 2));
        Bench.due(-20, x.read(0, 0, 0, 1));
        Bench.due(1, x.read(0, 0, 4, 1));
        Bench.due(1, x.step(1, 2));
        Bench.due(-20, x.read(0, 0, 0, 5));
    }

    private static void torn() {
        Bench.promise(43, "The FAULT of the latest read() that came to an end; 0.");
        RankStairs x = Bench.told(HOUSE);
        Bench.due(0, x.torn());
        x.sheet(1, 1, 1);
        int[][] ends = {{0, 0, 0, 1, NULL}, {1, 1, 0, 2, INDEX}, {1, 0, 0, 1, CAST}};
        for (int[] r : ends) {
            x.read(r[0], r[1], r[2], r[3]);
            Bench.due(r[4], x.torn());
            Bench.due(r[4], x.torn());
            // What is refused is no read that came to an end, and other calls are none at all.
            Bench.due(BAD, x.read(4, 1, 0, 1));
            Bench.due(BAD, x.read(1, 3, 0, 1));
            Bench.due(BAD, x.read(1, 1, 0, 21));
            x.lay(1, 0, 3);
            Bench.due(-20, x.read(1, 1, 0, 1));
            Bench.due(-12, x.lay(1, 1, 0));
            Bench.due(-11, x.lay(2, 0, 0));
            Bench.due(-14, x.sheet(1, 1, -1));
            x.lay(1, 0, 0);
            x.text();
            Bench.tell(x, HOUSE);
            Bench.due(r[4], x.torn());
            Bench.due(1, x.read(1, 1, 0, 1));
            Bench.due(0, x.torn());
        }
        // A read of nobody comes to an end, whatever the SHEET.
        for (int k = 0; k < 2; k++) {
            x.read(0, 0, 0, 1);
            Bench.due(NULL, x.torn());
            Bench.due(0, x.read(k, 0, -1, 0));
            Bench.due(0, x.torn());
        }
    }

    private static void counts() {
        Bench.promise(44, "How many: 0 SEEN, 1 IMAGES, 2 bytes on THE TAPE");
        RankStairs x = new RankStairs();
        int[] none = {0, 0, 0, NONE, 0, 0, 0};
        for (int what = 0; what <= 6; what++) {
            Bench.due(none[what], x.count(what));
        }
        for (int what : new int[] {-1, 7, LOW, HIGH}) {
            Bench.due(BAD, x.count(what));
        }
        Bench.tell(x, "iron0 99;".repeat(10) + "lodger 4 0 0 3;".repeat(4));
        for (int n = 0; n < 6; n++) {
            x.see(9, 0);
        }
        x.keep(0);
        x.keep(1);
        Bench.feed(x, " ".repeat(160));
        x.sheet(0, 1, 40);
        Bench.promise(44, "4 STEPS that are BROKEN, 5 all WEAR, 6 LODGERS who have a CLIMB. BAD.");
        int[] most = {6, 2, 160, 40, 10, 990, 0};
        for (int what = 0; what <= 6; what++) {
            Bench.due(most[what], x.count(what));
        }
        x.wear(3, 29);
        int[] one = {6, 2, 160, 40, 9, 920, 4};
        for (int what = 0; what <= 6; what++) {
            Bench.due(one[what], x.count(what));
        }
        x.move(0, 0);
        Bench.due(3, x.count(6));
    }

    private static void countsOfSheet() {
        Bench.promise(44, "3 CELLS of SHEET 0 (NONE: nothing)");
        RankStairs x = new RankStairs();
        Bench.due(NONE, x.count(3));
        x.sheet(1, 0, 5);
        x.sheet(3, 0, 5);
        Bench.due(NONE, x.count(3));
        for (int n : new int[] {0, 1, 40, 0}) {
            x.sheet(0, n % 3, n);
            Bench.due(n, x.count(3));
        }
    }
}
