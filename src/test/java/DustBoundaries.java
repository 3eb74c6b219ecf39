import java.math.BigInteger;

/** Dust, and climbs by a seed: promises 33 to 37. */
final class DustBoundaries {
    private static final int BAD = Bench.BAD, STATE = Bench.STATE, FULL = Bench.FULL;
    private static final int LOW = Bench.LOW, HIGH = Bench.HIGH;
    private static final String TEN_STEPS = "iron0 0;".repeat(10);
    private static final BigInteger TIMES = BigInteger.valueOf(1103515245), MORE = BigInteger.valueOf(12345);

    private DustBoundaries() {
    }

    static void run() {
        seen();
        seenIsFull();
        forgotten();
        fits();
        fitsByTheMost();
        fitsOfAll();
        fitsOfWhoStaysBelow();
        floors();
        drift();
        driftOfNobody();
        driftBySeed();
        driftOfMany();
        driftByItself();
    }

    private static void seen() {
        Bench.promise(33, "SEEN: a STEP, how much more WEAR: how many are. BAD;");
        Bench.terms("a STEP had more WEAR by so much (0 to 40)");
        RankStairs x = Bench.told(TEN_STEPS);
        Bench.due(1, x.see(0, 0));
        Bench.due(2, x.see(9, 40));
        for (int i : new int[] {-1, 10, LOW, HIGH}) {
            Bench.due(BAD, x.see(i, 0));
        }
        for (int more : new int[] {-1, 41, LOW, HIGH}) {
            Bench.due(BAD, x.see(0, more));
        }
        Bench.due(2, x.count(0));
        x = Bench.told("iron 0 0;");
        Bench.due(BAD, x.see(1, 0));
        Bench.due(1, x.see(0, 0));
        Bench.due(BAD, new RankStairs().see(0, 0));
    }

    private static void seenIsFull() {
        Bench.promise(33, "BAD; FULL.");
        Bench.terms("SEEN (6)");
        RankStairs x = Bench.told("iron 0 0;lodger 1 0 0 0;");
        for (int n = 1; n <= 6; n++) {
            Bench.due(n, x.see(0, 0));
        }
        Bench.due(FULL, x.see(0, 1));
        Bench.due(6, x.count(0));
        // The one that was refused does not count.
        Bench.due(1, x.fits());
        Bench.due(6, x.forget(5));
        Bench.due(6, x.see(0, 1));
        Bench.due(0, x.fits());
        Bench.due(FULL, x.see(0, 0));
    }

    private static void forgotten() {
        Bench.promise(34, "SEEN are the first n alone: how many there were. BAD.");
        RankStairs x = Bench.told("wood 0 0;wood 0 0;lodger 2 0 0 0;");
        Bench.due(0, x.forget(0));
        Bench.due(BAD, x.forget(1));
        Bench.due(BAD, x.forget(-1));
        x.see(0, 2);
        x.see(0, 0);
        for (int n = 3; n <= 6; n++) {
            x.see(1, 9);
        }
        for (int n : new int[] {-1, 7, LOW, HIGH}) {
            Bench.due(BAD, x.forget(n));
        }
        Bench.due(6, x.forget(6));
        Bench.due(6, x.forget(2));
        Bench.due(BAD, x.forget(3));
        Bench.due(0, x.fits());
        Bench.due(2, x.forget(1));
        // It is the first that is left.
        Bench.due(1, x.fits());
        Bench.due(1, x.floors(0));
        Bench.due(1, x.forget(0));
        Bench.due(2, x.fits());
        Bench.due(0, x.count(0));
    }

    private static void fits() {
        Bench.promise(35, "FLOORS of all (any STEP each) that FIT: how many.");
        Bench.due(1, new RankStairs().fits());
        RankStairs x = Bench.told("iron 0 0;");
        x.see(0, 0);
        Bench.due(1, x.fits());
        x.see(0, 1);
        Bench.due(0, x.fits());
        x = Bench.told(TEN_STEPS + "lodger 4 0 0 0;".repeat(4));
        Bench.due(10000, x.fits());
        x.see(9, 0);
        Bench.due(10000, x.fits());
        x.see(9, 1);
        Bench.due(0, x.fits());
        // By 1 less or 1 more than what they wear it does not fit.
        x = Bench.told("wood 0 0;stone 0 0;lodger 2 0 0 0;lodger 2 0 9 1;");
        // The second is heavy and treads 0 to any FLOOR, by 3; the first treads it to FLOOR 0 alone, by 2.
        int[] want = {0, 0, 0, 2, 0, 2, 0};
        for (int more = 0; more <= 6; more++) {
            x.see(0, more);
            Bench.due(want[more], x.fits());
            x.forget(0);
        }
    }

    private static void fitsByTheMost() {
        Bench.terms("a STEP had more WEAR by so much (0 to 40) behind the next DAY");
        // Four heavy ones wear wood by 12 at most.
        RankStairs x = Bench.told("wood 0 0;" + "lodger 1 0 9 0;".repeat(4));
        for (int more : new int[] {0, 11, 12, 13, 40}) {
            x.see(0, more);
            Bench.due(more == 12 ? 1 : 0, x.fits());
            Bench.due(more == 12 ? 1 : 0, x.floors(3));
            x.forget(0);
        }
        // WEAR of 99 at most: by 1 more, not by 3.
        x = Bench.told("wood 0 98;lodger 1 0 9 0;hold 99;");
        x.see(0, 1);
        Bench.due(1, x.fits());
        x.forget(0);
        x.see(0, 3);
        Bench.due(0, x.fits());
        // BROKEN by the second: the third and the fourth stay below.
        x = Bench.told("wood 0 24;" + "lodger 1 0 9 0;".repeat(4));
        x.see(0, 6);
        Bench.due(1, x.fits());
        x.wear(0, 23);
        Bench.due(0, x.fits());
        x.forget(0);
        x.see(0, 9);
        Bench.due(1, x.fits());
    }

    private static void fitsOfAll() {
        Bench.terms("FLOORS of all FIT, if by them (all else as it is) all is so.");
        RankStairs x = Bench.told("wood 0 0;wood 0 0;lodger 2 0 0 0;lodger 2 0 0 0;lodger 2 0 0 0;lodger 2 0 0 0;");
        // Each treads his FLOOR alone: how many are at 0.
        int[] ofFour = {1, 4, 6, 4, 1};
        for (int n = 0; n <= 4; n++) {
            x.see(0, 2 * n);
            Bench.due(ofFour[n], x.fits());
            x.see(1, 8 - 2 * n);
            Bench.due(ofFour[n], x.fits());
            x.see(1, 7);
            Bench.due(0, x.fits());
            x.forget(0);
        }
        for (int p = 0; p < 4; p++) {
            Bench.due(0, x.lodger(p, 3));
        }
        Bench.due(0, x.rule(4));
        // All else as it is: RANKS, LOADS, the law.
        x.see(0, 9);
        x.see(1, 0);
        Bench.due(0, x.fits());
        x.load(3, 5);
        Bench.due(1, x.fits());
        x.law(1, 2);
        Bench.due(0, x.fits());
    }

    private static void fitsOfWhoStaysBelow() {
        Bench.terms("who has none stays below");
        // To 0 and 3 he has none, to 1 and 2 one STEP each.
        RankStairs x = Bench.told("wood 0 30;wood 0 0;stone 0 0;wood 0 30;lodger 3 0 0 0;");
        int[][] dust = {{1, 0, 3, 13}, {1, 1, 0, 0}, {1, 2, 1, 2}, {2, 0, 3, 11}, {2, 1, 1, 4}, {0, 0, 4, 15},
            {3, 0, 4, 15}};
        for (int[] d : dust) {
            x.see(d[0], d[1]);
            Bench.due(d[2], x.fits());
            Bench.due(d[3], x.floors(0));
            x.forget(0);
        }
        x.see(1, 0);
        x.see(2, 0);
        Bench.due(2, x.fits());
        Bench.due(9, x.floors(0));
        // To 0 he has one, to 1 none: 0 is worn, or he stays below.
        x = Bench.told("wood 0 0;wood 0 30;lodger 2 0 0 0;");
        int[] floors = {2, 0, 1};
        for (int more = 0; more <= 2; more++) {
            x.see(0, more);
            Bench.due(Integer.bitCount(floors[more]), x.fits());
            Bench.due(floors[more], x.floors(0));
            x.forget(0);
        }
    }

    private static void floors() {
        Bench.promise(36, "FLOORS that a LODGER can have by those that FIT (bits). BAD.");
        RankStairs x = Bench.told("wood0 0;".repeat(10) + "lodger 4 0 0 9;lodger 4 0 0 9;");
        Bench.due(1023, x.floors(0));
        Bench.due(1023, x.floors(1));
        x.see(0, 4);
        // Both tread 0: it is on the way by 0, by 0 4 and by 0 4 8 alone.
        Bench.due(9, x.fits());
        Bench.due(273, x.floors(0));
        Bench.due(273, x.floors(1));
        x.see(4, 2);
        Bench.due(4, x.fits());
        Bench.due(273, x.floors(0));
        x.see(8, 2);
        Bench.due(2, x.fits());
        Bench.due(257, x.floors(0));
        x.see(4, 3);
        Bench.due(0, x.floors(0));
        Bench.due(0, x.floors(1));
        for (int p : new int[] {-1, 2, LOW, HIGH}) {
            Bench.due(BAD, x.floors(p));
        }
        x.forget(0);
        x.see(9, 4);
        Bench.due(512, x.floors(0));
        Bench.due(BAD, new RankStairs().floors(0));
    }

    private static void drift() {
        Bench.promise(37, "n times (1 to 60) by a seed");
        RankStairs x = Bench.told("iron 0 0;lodger 1 0 0 0;");
        Bench.due(BAD, x.drift(1, 0, 0));
        Bench.due(1, x.drift(1, 1, 0));
        Bench.due(2, x.drift(1, 2, 0));
        Bench.due(59, x.drift(1, 59, 0));
        Bench.due(60, x.drift(1, 60, 0));
        for (int n : new int[] {-1, 61, LOW, HIGH}) {
            Bench.due(BAD, x.drift(1, n, 0));
        }
        for (int what : new int[] {-1, 2, LOW, HIGH}) {
            Bench.due(BAD, x.drift(1, 1, what));
        }
        Bench.due(0, x.drift(1, 60, 1));
        x.wear(0, 30);
        Bench.due(0, x.drift(1, 60, 0));
        Bench.due(1, x.drift(1, 60, 1));
    }

    private static void driftOfNobody() {
        Bench.promise(37, "BAD; STATE: there is nobody.");
        RankStairs x = Bench.told("iron 0 0;");
        Bench.due(STATE, x.drift(1, 1, 0));
        Bench.due(STATE, x.drift(1, 60, 1));
        Bench.due(STATE, new RankStairs().drift(0, 1, 0));
        Bench.due(2, Bench.tell(x, "iron 0 0;lodger 1 0 0 0;"));
        Bench.due(1, x.drift(1, 1, 0));
    }

    /** Who goes, by whole numbers that know no wrap-around: bits 16 to 30 of the seed behind n turns. */
    private static int whoGoes(int seed, int n, int lodgers) {
        BigInteger s = BigInteger.valueOf(seed);
        for (int t = 0; t < n; t++) {
            s = s.multiply(TIMES).add(MORE);
        }
        BigInteger bits = s.shiftRight(16).mod(BigInteger.valueOf(32768));
        return bits.mod(BigInteger.valueOf(lodgers)).intValue();
    }

    private static void driftBySeed() {
        Bench.promise(37, "the seed becomes seed times 1103515245 and 12345; bits 16 to 30 of it modulo LODGERS: "
            + "that one goes");
        int[] seeds = {0, 1, 2, 3, 4, 5, -1, -2, -3, -7, 65535, 65536, 1 << 30, LOW, LOW + 1, HIGH, HIGH - 1};
        for (int lodgers = 1; lodgers <= 4; lodgers++) {
            StringBuilder text = new StringBuilder("hold 2;");
            for (int p = 0; p < lodgers; p++) {
                // Each treads his FLOOR alone and breaks it: it tells who went.
                text.append("wood 0 0;lodger 4 0 0 ").append(p).append(';');
            }
            RankStairs x = Bench.told(text.toString());
            for (int seed : seeds) {
                int went = 0;
                int broken = 0;
                for (int n = 1; n <= 4; n++) {
                    int who = 1 << whoGoes(seed, n, lodgers);
                    went += (broken & who) == 0 ? 1 : 0;
                    broken |= who;
                    Bench.due(went, x.drift(seed, n, 0));
                    Bench.due(broken, x.drift(seed, n, 1));
                }
            }
        }
    }

    private static void driftOfMany() {
        Bench.promise(37, "by his SHORTEST CLIMB, if there is one: how many did (what 0), STEPS that are BROKEN "
            + "then (1; bits)");
        // The second of three has none; of 60 turns those are counted that are the others'.
        RankStairs x = Bench.told("iron 0 0;iron 0 99;lodger 1 0 0 0;lodger 2 0 0 1;lodger 1 0 0 0;");
        for (int seed : new int[] {1, -1, LOW, HIGH}) {
            int went = 0;
            for (int n = 1; n <= 60; n++) {
                went += whoGoes(seed, n, 3) == 1 ? 0 : 1;
            }
            Bench.due(went, x.drift(seed, 60, 0));
            Bench.due(2, x.drift(seed, 60, 1));
        }
        Bench.due(0, x.rule(4));
        Bench.due(99, x.step(1, 2));
        x = Bench.told("iron0 99;".repeat(10) + "lodger 1 0 0 0;");
        Bench.due(1023, x.drift(1, 60, 1));
    }

    private static void driftByItself() {
        Bench.promise(37, "By itself,");
        Twins.Story story = x -> Bench.tell(x, "wood 0 0;stone 0 0;lodger 1 0 9 1;lodger 1 0 0 1;hold 9;");
        // From 0 the first goes three times, by 3 each: then 0 is BROKEN.
        Twins.unchanged(3, story, x -> x.drift(0, 60, 0));
        Twins.unchanged(1, story, x -> x.drift(0, 60, 1));
    }
}
