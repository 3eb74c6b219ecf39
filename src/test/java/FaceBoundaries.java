/** What there is and what is changed: promises 6 to 16. */
final class FaceBoundaries {
    private static final int BAD = Bench.BAD;
    private static final int LOW = Bench.LOW, HIGH = Bench.HIGH;
    private static final String ONE = "wood 12 3;lodger 2 1 4 0;";
    private static final String TEN_STEPS = "wood9 0;stone9 0;iron9 0;landing9 0;wood0 0;wood0 0;wood0 0;wood0 0;"
        + "wood0 0;iron60 99;";
    private static final String FOUR_LODGERS = "lodger1 0 0 0;lodger2 1 4 0;lodger3 2 5 9;lodger4 3 9 9;";

    private FaceBoundaries() {
    }

    static void run() {
        rules();
        steps();
        broken();
        lodgers();
        treads();
        kinds();
        ranksOfSteps();
        ages();
        wears();
        mends();
        ranks();
        loads();
        moves();
        laws();
        years();
    }

    private static void rules() {
        Bench.promise(6, "0 STEPS, 1 LODGERS, 2 GAP, 3 HOLD, 4 DAY. BAD.");
        RankStairs x = Bench.told(TEN_STEPS + FOUR_LODGERS);
        x.law(0, 3);
        x.law(1, 99);
        x.day(1);
        int[] want = {10, 4, 3, 99, 1};
        for (int what = 0; what <= 4; what++) {
            Bench.due(want[what], x.rule(what));
        }
        for (int what : new int[] {-1, 5, 10, LOW, HIGH}) {
            Bench.due(BAD, x.rule(what));
        }
    }

    private static void steps() {
        Bench.promise(7, "Of a STEP: 0 KIND, 1 YEARS, 2 WEAR, 3 RANK, 4 whether it is BROKEN (1, 0). BAD.");
        RankStairs x = Bench.told(TEN_STEPS);
        int[][] want = {{0, 9, 0, 0, 0}, {1, 9, 0, 1, 0}, {2, 9, 0, 0, 0}, {3, 9, 0, 1, 0}, {2, 60, 99, 0, 1}};
        int[] at = {0, 1, 2, 3, 9};
        for (int k = 0; k < at.length; k++) {
            for (int what = 0; what <= 4; what++) {
                Bench.due(want[k][what], x.step(at[k], what));
            }
            Bench.due(BAD, x.step(at[k], -1));
            Bench.due(BAD, x.step(at[k], 5));
        }
        for (int i : new int[] {-1, 10, LOW, HIGH}) {
            Bench.due(BAD, x.step(i, 0));
        }
        x = Bench.told(ONE);
        Bench.due(0, x.step(0, 0));
        Bench.due(BAD, x.step(1, 0));
        Bench.due(BAD, x.step(0, LOW));
        Bench.due(BAD, x.step(0, HIGH));
    }

    private static void broken() {
        Bench.terms("BROKEN is a STEP with WEAR of HOLD or more.");
        RankStairs x = Bench.told("iron 0 29;iron 0 30;iron 0 31;landing 0 30;");
        int[] want = {0, 1, 1, 1};
        for (int i = 0; i < 4; i++) {
            Bench.due(want[i], x.step(i, 4));
        }
        Bench.due(14, x.ahead(0, 1));
        x.law(1, 31);
        Bench.due(0, x.step(1, 4));
        Bench.due(1, x.step(2, 4));
        x.law(1, 29);
        Bench.due(1, x.step(0, 4));
        x.law(1, 1);
        x.wear(0, 0);
        Bench.due(0, x.step(0, 4));
        x.wear(0, 1);
        Bench.due(1, x.step(0, 4));
        x.law(1, 99);
        x.wear(0, 98);
        Bench.due(0, x.step(0, 4));
        x.wear(0, 99);
        Bench.due(1, x.step(0, 4));
    }

    private static void lodgers() {
        Bench.promise(8, "Of a LODGER: 0 LEGS, 1 RANK, 2 LOAD, 3 FLOOR, 4 how far he REACHES, 5 STEPS that he MAY "
            + "TREAD (bits). BAD.");
        RankStairs x = Bench.told(TEN_STEPS + FOUR_LODGERS);
        // The last STEP is BROKEN; by GAP 1 RANKS 0, 1, 0, landing, 0 .. 0.
        int[][] want = {{1, 0, 0, 0, 1, 511}, {2, 1, 4, 0, 2, 511}, {3, 2, 5, 9, 2, 10}, {4, 3, 9, 9, 3, 8}};
        for (int p = 0; p < 4; p++) {
            for (int what = 0; what <= 5; what++) {
                Bench.due(want[p][what], x.lodger(p, what));
            }
            Bench.due(BAD, x.lodger(p, -1));
            Bench.due(BAD, x.lodger(p, 6));
        }
        x.mend(9);
        Bench.due(1023, x.lodger(0, 5));
        for (int p : new int[] {-1, 4, LOW, HIGH}) {
            Bench.due(BAD, x.lodger(p, 0));
        }
        x = Bench.told(ONE);
        Bench.due(2, x.lodger(0, 0));
        Bench.due(BAD, x.lodger(1, 0));
        x = Bench.told("iron 0 30;lodger 1 0 0 0;");
        Bench.due(0, x.lodger(0, 5));
    }

    private static void treads() {
        Bench.terms("A LODGER MAY TREAD a STEP that is not BROKEN: a landing, or one of which RANK is no more than "
            + "GAP above or below his.");
        RankStairs x = Bench.told("wood 0 0;wood 10 0;wood 20 0;wood 30 0;landing 30 29;landing 0 30;lodger 1 0 0 0;");
        // By GAP, then by his RANK: the STEPS of RANKS 0 to 3; the landing that is whole is 16.
        int[][] near = {{1, 2, 4, 8}, {3, 7, 14, 12}, {7, 15, 15, 14}, {15, 15, 15, 15}};
        for (int gap = 0; gap <= 3; gap++) {
            for (int rank = 0; rank <= 3; rank++) {
                x.law(0, gap);
                x.rank(0, rank);
                Bench.due(16 + near[gap][rank], x.lodger(0, 5));
            }
        }
        x.wear(0, 29);
        Bench.due(31, x.lodger(0, 5));
        x.wear(0, 30);
        Bench.due(30, x.lodger(0, 5));
        x.wear(5, 29);
        Bench.due(62, x.lodger(0, 5));
    }

    private static void kinds() {
        Bench.terms("each of a KIND (0 wood, 1 stone, 2 iron, 3 landing), with YEARS (0 to 60), WEAR (0 to 99)");
        RankStairs x = Bench.told("wood 0 0;stone 60 99;iron 0 99;landing 60 0;");
        for (int kind = 0; kind < 4; kind++) {
            Bench.due(kind, x.step(kind, 0));
            Bench.due(kind % 2 == 0 ? 0 : 60, x.step(kind, 1));
            Bench.due(kind == 1 || kind == 2 ? 99 : 0, x.step(kind, 2));
        }
    }

    private static void ranksOfSteps() {
        Bench.terms("RANK of a STEP: wood: a tenth of its YEARS (down; 3 at most); stone: 1 more than wood of its "
            + "YEARS (3 at most); iron 0; landing: as stone.");
        RankStairs x = Bench.told("wood 0 0;stone 0 0;iron 0 0;landing 0 0;");
        int[] years = {0, 9, 10, 19, 20, 29, 30, 39, 40, 59, 60};
        int[] wood = {0, 0, 1, 1, 2, 2, 3, 3, 3, 3, 3};
        int[] stone = {1, 1, 2, 2, 3, 3, 3, 3, 3, 3, 3};
        for (int k = 0; k < years.length; k++) {
            for (int i = 0; i < 4; i++) {
                x.age(i, years[k]);
            }
            Bench.due(wood[k], x.step(0, 3));
            Bench.due(stone[k], x.step(1, 3));
            Bench.due(0, x.step(2, 3));
            Bench.due(stone[k], x.step(3, 3));
        }
    }

    private static void ages() {
        Bench.promise(9, "YEARS of a STEP become v (0 to 60): what they were. BAD.");
        RankStairs x = Bench.told(ONE);
        Bench.due(12, x.age(0, 0));
        Bench.due(0, x.age(0, 60));
        for (int v : new int[] {-1, 61, LOW, HIGH}) {
            Bench.due(BAD, x.age(0, v));
        }
        for (int i : new int[] {-1, 1, LOW, HIGH}) {
            Bench.due(BAD, x.age(i, 5));
        }
        Bench.due(60, x.step(0, 1));
        x = Bench.told(TEN_STEPS);
        Bench.due(60, x.age(9, 59));
        Bench.due(59, x.step(9, 1));
        Bench.due(9, x.age(0, 1));
        Bench.due(BAD, x.age(10, 1));
    }

    private static void wears() {
        Bench.promise(10, "WEAR of a STEP becomes v (0 to 99): what it was. BAD.");
        RankStairs x = Bench.told(ONE);
        Bench.due(3, x.wear(0, 0));
        Bench.due(0, x.wear(0, 99));
        for (int v : new int[] {-1, 100, LOW, HIGH}) {
            Bench.due(BAD, x.wear(0, v));
        }
        for (int i : new int[] {-1, 1, LOW, HIGH}) {
            Bench.due(BAD, x.wear(i, 5));
        }
        Bench.due(99, x.step(0, 2));
        x = Bench.told(TEN_STEPS);
        Bench.due(99, x.wear(9, 98));
        Bench.due(98, x.step(9, 2));
        Bench.due(BAD, x.wear(10, 1));
    }

    private static void mends() {
        Bench.promise(11, "A STEP is mended (a new board): YEARS and WEAR are 0: its WEAR. BAD.");
        RankStairs x = Bench.told(TEN_STEPS);
        Bench.due(99, x.mend(9));
        Bench.due(2, x.step(9, 0));
        Bench.due(0, x.step(9, 1));
        Bench.due(0, x.step(9, 2));
        Bench.due(0, x.mend(9));
        Bench.due(0, x.mend(0));
        Bench.due(0, x.step(0, 1));
        Bench.due(9, x.step(1, 1));
        for (int i : new int[] {-1, 10, LOW, HIGH}) {
            Bench.due(BAD, x.mend(i));
        }
        x = Bench.told(ONE);
        Bench.due(BAD, x.mend(1));
        Bench.due(3, x.mend(0));
    }

    private static void ranks() {
        Bench.promise(12, "RANK of a LODGER becomes r: what it was. BAD.");
        RankStairs x = Bench.told(ONE);
        Bench.due(1, x.rank(0, 0));
        Bench.due(0, x.rank(0, 3));
        for (int r : new int[] {-1, 4, LOW, HIGH}) {
            Bench.due(BAD, x.rank(0, r));
        }
        for (int p : new int[] {-1, 1, LOW, HIGH}) {
            Bench.due(BAD, x.rank(p, 2));
        }
        Bench.due(3, x.lodger(0, 1));
        x = Bench.told(TEN_STEPS + FOUR_LODGERS);
        Bench.due(3, x.rank(3, 2));
        Bench.due(2, x.lodger(3, 1));
        Bench.due(BAD, x.rank(4, 2));
    }

    private static void loads() {
        Bench.promise(13, "LOAD of a LODGER becomes v: what it was. BAD.");
        RankStairs x = Bench.told(ONE);
        Bench.due(4, x.load(0, 0));
        Bench.due(0, x.load(0, 9));
        for (int v : new int[] {-1, 10, LOW, HIGH}) {
            Bench.due(BAD, x.load(0, v));
        }
        for (int p : new int[] {-1, 1, LOW, HIGH}) {
            Bench.due(BAD, x.load(p, 2));
        }
        Bench.due(9, x.lodger(0, 2));
        x = Bench.told(TEN_STEPS + FOUR_LODGERS);
        Bench.due(9, x.load(3, 8));
        Bench.due(8, x.lodger(3, 2));
        Bench.due(BAD, x.load(4, 2));
    }

    private static void moves() {
        Bench.promise(14, "FLOOR of a LODGER becomes a STEP: what it was. BAD.");
        RankStairs x = Bench.told(TEN_STEPS + FOUR_LODGERS);
        Bench.due(0, x.move(0, 9));
        Bench.due(9, x.move(0, 0));
        Bench.due(9, x.move(3, 5));
        Bench.due(5, x.lodger(3, 3));
        for (int i : new int[] {-1, 10, LOW, HIGH}) {
            Bench.due(BAD, x.move(3, i));
        }
        for (int p : new int[] {-1, 4, LOW, HIGH}) {
            Bench.due(BAD, x.move(p, 5));
        }
        Bench.due(5, x.lodger(3, 3));
        x = Bench.told(ONE);
        Bench.due(0, x.move(0, 0));
        Bench.due(BAD, x.move(0, 1));
        Bench.due(BAD, x.move(1, 0));
    }

    private static void laws() {
        Bench.promise(15, "GAP (what 0), HOLD (1) becomes v: what it was. BAD.");
        RankStairs x = new RankStairs();
        Bench.due(1, x.law(0, 0));
        Bench.due(0, x.law(0, 3));
        Bench.due(30, x.law(1, 1));
        Bench.due(1, x.law(1, 99));
        for (int v : new int[] {-1, 4, LOW, HIGH}) {
            Bench.due(BAD, x.law(0, v));
        }
        for (int v : new int[] {-1, 0, 100, LOW, HIGH}) {
            Bench.due(BAD, x.law(1, v));
        }
        for (int what : new int[] {-1, 2, LOW, HIGH}) {
            Bench.due(BAD, x.law(what, 1));
        }
        Bench.due(3, x.rule(2));
        Bench.due(99, x.rule(3));
    }

    private static void years() {
        Bench.promise(16, "All YEARS are 1 more (60 at most): how many STEPS have another RANK by it.");
        RankStairs x = Bench.told("wood8 0;wood9 0;wood29 0;wood39 0;stone19 0;stone29 0;iron9 0;landing19 0;"
            + "wood59 0;wood60 0;");
        // Wood of 9 and 29, stone and landing of 19; those behind have RANK 3, or 0, before and after.
        Bench.due(4, x.year());
        int[] want = {9, 10, 30, 40, 20, 30, 10, 20, 60, 60};
        for (int i = 0; i < 10; i++) {
            Bench.due(want[i], x.step(i, 1));
        }
        Bench.due(1, x.year());
        Bench.due(10, x.step(0, 1));
        Bench.due(60, x.step(8, 1));
        Bench.due(60, x.step(9, 1));
        Bench.due(0, x.rule(4));
        Bench.due(0, new RankStairs().year());
        x = Bench.told("wood9 0;".repeat(10));
        Bench.due(10, x.year());
        Bench.due(0, x.year());
    }
}
