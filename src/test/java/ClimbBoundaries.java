/** CLIMBS: promises 17 to 21, and what part 2 of the terms says of them. */
final class ClimbBoundaries {
    private static final int BAD = Bench.BAD, NONE = Bench.NONE;
    private static final int LOW = Bench.LOW, HIGH = Bench.HIGH;
    private static final String TEN_STEPS = "iron0 0;".repeat(10);
    private static final String TEN_BROKEN = "iron0 30;".repeat(10);

    private ClimbBoundaries() {
    }

    static void run() {
        reaches();
        treadable();
        firstStep();
        fromStepToStep();
        lastStep();
        firstByNumbers();
        climbs();
        ways();
        smooth();
        smoothByWhatHeMayTread();
        homes();
        must();
    }

    private static void reaches() {
        Bench.terms("He REACHES LEGS STEPS up, 1 less (but 1) with a LOAD of 5 or more.");
        int[] heavy = {0, 1, 1, 2, 3};
        for (int legs = 1; legs <= 4; legs++) {
            RankStairs x = Bench.told("iron 0 0;lodger " + legs + " 0 0 0;");
            for (int load = 0; load <= 9; load++) {
                x.load(0, load);
                Bench.due(load < 5 ? legs : heavy[legs], x.lodger(0, 4));
            }
        }
    }

    /** A LODGER of so many LEGS at the FLOOR, and STEPS that are BROKEN but for those that are mended. */
    private static RankStairs lodgerOn(int legs, int floor, int... mended) {
        RankStairs x = Bench.told(TEN_BROKEN + "lodger " + legs + " 0 0 " + floor + ";");
        for (int i : mended) {
            x.mend(i);
        }
        return x;
    }

    private static void treadable() {
        Bench.terms("A CLIMB of a LODGER: a row of STEPS that he MAY TREAD,");
        // 1 is as far from his RANK as GAP lets him; by 1 less, or BROKEN, it is passed over, and then there is none.
        RankStairs x = Bench.told("iron 0 0;wood 20 29;iron 0 0;iron 0 0;lodger 2 0 0 3;gap 2;");
        steps(x, 1, 3);
        Bench.due(5, x.ways(0));
        x.law(0, 1);
        steps(x, 0, 2, 3);
        Bench.due(1, x.ways(0));
        x.law(0, 2);
        x.wear(1, 30);
        steps(x, 0, 2, 3);
        x.wear(2, 30);
        Bench.due(NONE, x.climb(0, 0));
        Bench.due(0, x.ways(0));
        // A landing is for all, but BROKEN for none.
        x = Bench.told("landing 60 29;lodger 1 0 0 0;gap 0;");
        steps(x, 0);
        x.wear(0, 30);
        Bench.due(NONE, x.climb(0, 0));
    }

    private static void firstStep() {
        Bench.terms("(the first one by no more from below: STEP 0 is 1 up)");
        for (int legs = 1; legs <= 4; legs++) {
            RankStairs x = lodgerOn(legs, legs - 1, legs - 1);
            Bench.due(1, x.climb(0, 0));
            Bench.due(legs - 1, x.climb(0, 10));
            Bench.due(1, x.ways(0));
            Bench.due(1, x.homes());
            x = lodgerOn(legs, legs, legs);
            Bench.due(NONE, x.climb(0, 0));
            Bench.due(0, x.ways(0));
            Bench.due(0, x.homes());
        }
    }

    private static void fromStepToStep() {
        Bench.terms("each above the one before by no more than he REACHES");
        for (int legs = 1; legs <= 4; legs++) {
            RankStairs x = lodgerOn(legs, 3 + legs, 0, 1, 2, 3, 3 + legs);
            Bench.due(3 + legs, x.climb(0, 9 + x.climb(0, 0)));
            Bench.due(1, x.homes());
            x.load(0, 5);
            Bench.due(legs == 1 ? 1 : 0, x.homes());
            x = lodgerOn(legs, 4 + legs, 0, 1, 2, 3, 4 + legs);
            Bench.due(NONE, x.climb(0, 0));
            Bench.due(0, x.ways(0));
            Bench.due(0, x.homes());
        }
    }

    private static void lastStep() {
        Bench.terms("the last is his FLOOR");
        RankStairs x = lodgerOn(1, 2, 0, 1);
        Bench.due(NONE, x.climb(0, 0));
        x.move(0, 1);
        Bench.due(2, x.climb(0, 0));
        Bench.due(1, x.climb(0, 11));
        Bench.due(NONE, x.climb(0, 12));
        x.move(0, 0);
        Bench.due(1, x.climb(0, 0));
        Bench.due(0, x.climb(0, 10));
    }

    private static void steps(RankStairs x, int... want) {
        Bench.due(want.length, x.climb(0, 0));
        for (int k = 0; k < want.length; k++) {
            Bench.due(want[k], x.climb(0, 10 + k));
        }
        Bench.due(want.length < 10 ? NONE : BAD, x.climb(0, 10 + want.length));
    }

    private static void firstByNumbers() {
        Bench.terms("The SHORTEST has fewest STEPS, of several it is the first by numbers, from below.");
        RankStairs x = Bench.told(TEN_STEPS + "lodger 4 0 0 9;");
        // 3 STEPS reach up to 12: by 1 5 9, 2 5 9, .. 3 8 9.
        steps(x, 1, 5, 9);
        x.wear(5, 30);
        steps(x, 2, 6, 9);
        x.wear(1, 30);
        steps(x, 2, 6, 9);
        x.wear(6, 30);
        steps(x, 3, 7, 9);
        x.wear(7, 30);
        // 3 STEPS will not do any more.
        steps(x, 0, 4, 8, 9);
        x.wear(4, 30);
        Bench.due(NONE, x.climb(0, 0));
        x = Bench.told(TEN_STEPS + "lodger 2 0 0 3;");
        // By 1 3; then by 0 2 3.
        steps(x, 1, 3);
        x.wear(1, 30);
        steps(x, 0, 2, 3);
    }

    private static void climbs() {
        Bench.promise(17, "The SHORTEST CLIMB of a LODGER: how many STEPS (what 0); 10 and k: its STEP k (0 to 9). "
            + "BAD; NONE: there is none, not so many.");
        RankStairs x = Bench.told(TEN_STEPS + "lodger 1 0 0 9;lodger 1 0 0 8;");
        steps(x, 0, 1, 2, 3, 4, 5, 6, 7, 8, 9);
        Bench.due(9, x.climb(1, 0));
        Bench.due(8, x.climb(1, 18));
        Bench.due(NONE, x.climb(1, 19));
        for (int what : new int[] {-1, 1, 2, 9, 20, LOW, HIGH}) {
            Bench.due(BAD, x.climb(0, what));
        }
        for (int p : new int[] {-1, 2, LOW, HIGH}) {
            Bench.due(BAD, x.climb(p, 0));
            Bench.due(BAD, x.climb(p, 10));
        }
        x.wear(8, 30);
        for (int what : new int[] {0, 10, 18, 19}) {
            Bench.due(NONE, x.climb(0, what));
            Bench.due(NONE, x.climb(1, what));
        }
        x.wear(8, 29);
        Bench.due(10, x.climb(0, 0));
        Bench.due(BAD, new RankStairs().climb(0, 0));
    }

    private static void ways() {
        Bench.promise(18, "CLIMBS of a LODGER: how many. BAD.");
        RankStairs x = Bench.told(TEN_STEPS + "lodger 4 0 4 9;lodger 1 0 0 9;lodger 4 0 0 0;lodger 2 0 4 9;");
        int[] want = {401, 1, 1, 89};
        for (int p = 0; p < 4; p++) {
            Bench.due(want[p], x.ways(p));
        }
        x.load(0, 5);
        Bench.due(274, x.ways(0));
        x.load(3, 5);
        Bench.due(1, x.ways(3));
        x.wear(0, 30);
        Bench.due(0, x.ways(1));
        Bench.due(0, x.ways(2));
        for (int p : new int[] {-1, 4, LOW, HIGH}) {
            Bench.due(BAD, x.ways(p));
        }
        Bench.due(BAD, new RankStairs().ways(0));
    }

    private static void smooth() {
        Bench.promise(19, "that WEAR (what 0), the fewest STEPS of such CLIMBS (1). BAD; NONE: there is none.");
        RankStairs x = Bench.told("iron 0 0;iron 0 5;iron 0 5;iron 0 98;lodger 2 0 0 2;hold 99;");
        // By 1 2 and 0 2, 0 1 2: 5 at least, for the FLOOR is so worn.
        Bench.due(5, x.smooth(0, 0));
        Bench.due(2, x.smooth(0, 1));
        x.wear(2, 4);
        Bench.due(4, x.smooth(0, 0));
        x.wear(2, 0);
        Bench.due(0, x.smooth(0, 0));
        Bench.due(2, x.smooth(0, 1));
        x.move(0, 3);
        Bench.due(98, x.smooth(0, 0));
        Bench.due(2, x.smooth(0, 1));
        x.move(0, 0);
        Bench.due(0, x.smooth(0, 0));
        Bench.due(1, x.smooth(0, 1));
        x.move(0, 3);
        x.wear(3, 99);
        Bench.due(NONE, x.smooth(0, 0));
        Bench.due(NONE, x.smooth(0, 1));
        for (int what : new int[] {-1, 2, LOW, HIGH}) {
            Bench.due(BAD, x.smooth(0, what));
        }
        for (int p : new int[] {-1, 1, LOW, HIGH}) {
            Bench.due(BAD, x.smooth(p, 0));
        }
        // Of CLIMBS as worn fewer STEPS will do; one that is less worn by 1 is taken, though it has more.
        x = Bench.told("iron0 7;".repeat(10) + "lodger 4 0 0 9;");
        Bench.due(7, x.smooth(0, 0));
        Bench.due(3, x.smooth(0, 1));
        x = Bench.told("iron0 7;".repeat(10) + "lodger 1 0 0 9;");
        Bench.due(10, x.smooth(0, 1));
        x = Bench.told("iron0 7;iron0 8;iron0 7;iron0 7;lodger 2 0 0 3;");
        Bench.due(7, x.smooth(0, 0));
        Bench.due(3, x.smooth(0, 1));
        x.wear(1, 7);
        Bench.due(2, x.smooth(0, 1));
    }

    private static void smoothByWhatHeMayTread() {
        Bench.promise(19, "The CLIMB of a LODGER of which the most worn STEP is least worn");
        // The first STEP is the most worn; from below he can not but tread it, with 1 LEG more he can.
        RankStairs x = Bench.told("iron 0 9;iron 0 2;lodger 1 0 0 1;lodger 2 0 0 1;lodger 1 0 0 0;");
        Bench.due(9, x.smooth(0, 0));
        Bench.due(2, x.smooth(0, 1));
        Bench.due(2, x.smooth(1, 0));
        Bench.due(1, x.smooth(1, 1));
        Bench.due(9, x.smooth(2, 0));
        // 1 is less worn, but not for his RANK; by a GAP of 1 more it is.
        x = Bench.told("iron 0 7;wood 20 1;iron 0 2;lodger 2 0 0 2;");
        Bench.due(7, x.smooth(0, 0));
        x.law(0, 2);
        Bench.due(2, x.smooth(0, 0));
        // 1 is as worn as can be without being BROKEN.
        x = Bench.told("iron 0 30;iron 0 29;iron 0 2;lodger 2 0 0 2;");
        Bench.due(29, x.smooth(0, 0));
        x.wear(1, 30);
        Bench.due(NONE, x.smooth(0, 0));
        // 1 and 4 are too worn: by 0 2 3 5; as little worn as the others they let him by 1 3 5.
        x = Bench.told("iron 0 1;iron 0 2;iron 0 1;iron 0 1;iron 0 2;iron 0 1;lodger 2 0 0 5;");
        Bench.due(1, x.smooth(0, 0));
        Bench.due(4, x.smooth(0, 1));
        x.wear(1, 1);
        Bench.due(1, x.smooth(0, 0));
        Bench.due(3, x.smooth(0, 1));
        // So it is where 1 is not for his RANK.
        x = Bench.told("iron 0 1;wood 20 1;iron 0 1;iron 0 1;iron 0 2;iron 0 1;lodger 2 0 0 5;");
        Bench.due(1, x.smooth(0, 0));
        Bench.due(4, x.smooth(0, 1));
        x.law(0, 2);
        Bench.due(3, x.smooth(0, 1));
    }

    private static void homes() {
        Bench.promise(20, "LODGERS who have a CLIMB now (bits).");
        Bench.due(0, new RankStairs().homes());
        RankStairs x = Bench.told("iron 0 0;iron 0 0;lodger 1 0 0 0;lodger 1 0 0 1;lodger 2 0 0 1;lodger 1 0 0 0;");
        Bench.due(15, x.homes());
        x.wear(0, 29);
        Bench.due(15, x.homes());
        x.wear(0, 30);
        Bench.due(4, x.homes());
        x.wear(1, 30);
        Bench.due(0, x.homes());
    }

    private static void must() {
        Bench.promise(21, "LODGERS whose CLIMBS all tread a STEP (bits; who has none: not). BAD.");
        RankStairs x = Bench.told(TEN_STEPS + "lodger 1 0 0 9;lodger 2 0 0 9;lodger 1 0 0 4;lodger 4 0 0 3;");
        int[] want = {5, 5, 5, 13, 5, 1, 1, 1, 1, 3};
        for (int i = 0; i < 10; i++) {
            Bench.due(want[i], x.must(i));
        }
        x.wear(8, 30);
        // The first has none any more; the second must by 7.
        Bench.due(4, x.must(0));
        Bench.due(2, x.must(7));
        Bench.due(2, x.must(9));
        x.wear(7, 30);
        Bench.due(0, x.must(9));
        Bench.due(0, x.must(8));
        for (int i : new int[] {-1, 10, LOW, HIGH}) {
            Bench.due(BAD, x.must(i));
        }
        x = Bench.told("iron 0 0;lodger 1 0 0 0;lodger 1 0 0 0;lodger 1 0 0 0;lodger 1 0 0 0;");
        Bench.due(15, x.must(0));
        Bench.due(BAD, x.must(1));
        Bench.due(BAD, new RankStairs().must(0));
    }
}
