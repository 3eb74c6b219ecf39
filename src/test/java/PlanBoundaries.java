/** What is to be done, and odds: promises 26 to 32. */
final class PlanBoundaries {
    private static final int BAD = Bench.BAD, NONE = Bench.NONE;
    private static final int LOW = Bench.LOW, HIGH = Bench.HIGH;
    private static final String TEN_STEPS = "iron0 0;".repeat(10);

    private PlanBoundaries() {
    }

    static void run() {
        gaps();
        legs();
        holds();
        holdsOfDays();
        best();
        bestOfSeveral();
        lodge();
        lodgeByFewest();
        lodgeOfSeveral();
        odds();
        oddsOfKinds();
        mean();
    }

    private static void gaps() {
        Bench.promise(26, "The least GAP (0 to 3) by which a LODGER has a CLIMB. BAD; NONE: by none.");
        RankStairs x = Bench.told("wood 0 0;wood 10 0;wood 20 0;wood 30 0;landing 30 0;lodger 4 0 0 0;");
        for (int rank = 0; rank <= 3; rank++) {
            x.rank(0, rank);
            for (int floor = 0; floor <= 3; floor++) {
                x.move(0, floor);
                Bench.due(Math.abs(rank - floor), x.gap(0));
            }
        }
        Bench.due(1, x.rule(2));
        // The landing is 5 up: he must tread one of the STEPS below it, and the lower the nearer their RANKS are.
        x.rank(0, 0);
        x.move(0, 4);
        Bench.due(0, x.gap(0));
        x.wear(0, 30);
        Bench.due(1, x.gap(0));
        x.wear(1, 30);
        Bench.due(2, x.gap(0));
        x.wear(2, 30);
        Bench.due(3, x.gap(0));
        x.wear(3, 30);
        Bench.due(NONE, x.gap(0));
        for (int p : new int[] {-1, 1, LOW, HIGH}) {
            Bench.due(BAD, x.gap(p));
        }
        x = Bench.told("landing 30 0;lodger 1 0 0 0;gap 3;");
        Bench.due(0, x.gap(0));
        x.wear(0, 30);
        Bench.due(NONE, x.gap(0));
        Bench.due(BAD, new RankStairs().gap(0));
    }

    private static void legs() {
        Bench.promise(27, "The least LEGS (1 to 4) by which a LODGER has a CLIMB. BAD; NONE: by none.");
        RankStairs x = Bench.told("iron 0 0;iron 0 0;iron 0 0;iron 0 0;iron 0 0;lodger 1 0 4 0;lodger 4 0 5 0;");
        // The only STEP that is whole is FLOOR i: i + 1 up.
        for (int floor = 0; floor < 5; floor++) {
            for (int i = 0; i < 5; i++) {
                x.wear(i, i == floor ? 29 : 30);
            }
            x.move(0, floor);
            x.move(1, floor);
            Bench.due(floor < 4 ? floor + 1 : NONE, x.legs(0));
            Bench.due(floor == 0 ? 1 : floor < 3 ? floor + 2 : NONE, x.legs(1));
        }
        Bench.due(1, x.lodger(0, 0));
        Bench.due(4, x.lodger(1, 0));
        x.wear(4, 30);
        Bench.due(NONE, x.legs(0));
        for (int p : new int[] {-1, 2, LOW, HIGH}) {
            Bench.due(BAD, x.legs(p));
        }
        Bench.due(BAD, new RankStairs().legs(0));
    }

    private static void holds() {
        Bench.promise(28, "The least HOLD (1 to 99) by which no STEP is BROKEN behind any of n DAYS (0 to 60; now, "
            + "too). BAD; NONE: by none.");
        RankStairs x = Bench.told("iron 0 0;iron 0 0;");
        Bench.due(1, x.hold(0));
        Bench.due(1, x.hold(60));
        x.wear(1, 1);
        Bench.due(2, x.hold(0));
        x.wear(1, 97);
        Bench.due(98, x.hold(60));
        x.wear(1, 98);
        Bench.due(99, x.hold(60));
        x.wear(1, 99);
        Bench.due(NONE, x.hold(60));
        Bench.due(NONE, x.hold(0));
        for (int n : new int[] {-1, 61, LOW, HIGH}) {
            Bench.due(BAD, x.hold(n));
        }
        Bench.due(30, x.rule(3));
        Bench.due(1, new RankStairs().hold(60));
        // The last of ten is the most worn.
        x = Bench.told(TEN_STEPS);
        x.wear(9, 60);
        Bench.due(61, x.hold(0));
    }

    private static void holdsOfDays() {
        Bench.promise(28, "behind any of n DAYS (0 to 60; now, too)");
        RankStairs x = Bench.told("stone 0 38;lodger 1 0 0 0;hold 1;");
        for (int n : new int[] {0, 1, 59, 60}) {
            Bench.due(39 + n, x.hold(n));
        }
        x.wear(0, 39);
        Bench.due(99, x.hold(59));
        Bench.due(NONE, x.hold(60));
        x = Bench.told("wood 0 96;lodger 1 0 0 0;");
        Bench.due(97, x.hold(0));
        Bench.due(99, x.hold(1));
        Bench.due(NONE, x.hold(2));
        x.wear(0, 97);
        Bench.due(98, x.hold(0));
        Bench.due(NONE, x.hold(1));
    }

    private static void best() {
        Bench.promise(29, "The STEP to be mended by which most LODGERS have a CLIMB, more than now");
        RankStairs x = Bench.told("iron 0 30;iron 0 0;iron 0 29;lodger 1 0 0 0;lodger 1 0 0 1;lodger 1 0 0 2;"
            + "lodger 2 0 0 1;");
        Bench.due(8, x.homes());
        Bench.due(0, x.best(0));
        Bench.due(4, x.best(1));
        // All have one: none can be more.
        x.wear(0, 29);
        Bench.due(NONE, x.best(0));
        Bench.due(NONE, x.best(1));
        for (int what : new int[] {-1, 2, LOW, HIGH}) {
            Bench.due(BAD, x.best(what));
        }
        // By a new board he who needs an old one loses what another wins: no more than now.
        x = Bench.told("wood 30 0;wood 0 0;lodger 1 3 0 0;lodger 1 0 0 0;gap 0;");
        Bench.due(1, x.homes());
        Bench.due(NONE, x.best(0));
        x.wear(0, 30);
        Bench.due(0, x.homes());
        Bench.due(0, x.best(0));
        Bench.due(1, x.best(1));
        Bench.due(NONE, new RankStairs().best(0));
        Bench.due(NONE, new RankStairs().best(1));
    }

    private static void bestOfSeveral() {
        Bench.promise(29, "of several the lowest (what 0), how many have (1). BAD; NONE: by none.");
        // Either will do for the first; the second needs both.
        RankStairs x = Bench.told("iron 0 30;iron 0 30;iron 0 0;lodger 2 0 0 2;lodger 1 0 0 2;");
        Bench.due(0, x.best(0));
        Bench.due(1, x.best(1));
        x.wear(0, 29);
        Bench.due(1, x.best(0));
        Bench.due(2, x.best(1));
        // The last one of ten.
        x = Bench.told(TEN_STEPS + "lodger 1 0 0 9;");
        x.wear(9, 30);
        Bench.due(9, x.best(0));
        Bench.due(1, x.best(1));
        x.wear(8, 30);
        Bench.due(NONE, x.best(0));
    }

    private static void lodge() {
        Bench.promise(30, "how many have (what 0), these STEPS (1); 10 and p: the FLOOR of a LODGER then");
        RankStairs x = Bench.told("iron 0 0;iron 0 0;iron 0 0;iron 0 0;lodger 1 0 0 3;lodger 2 0 0 2;lodger 3 0 0 1;"
            + "lodger 4 0 0 0;");
        // Each at the FLOOR that is his LEGS up: one STEP each.
        Bench.due(4, x.lodge(0));
        Bench.due(4, x.lodge(1));
        for (int p = 0; p < 4; p++) {
            Bench.due(p, x.lodge(10 + p));
            Bench.due(3 - p, x.lodger(p, 3));
        }
        for (int what : new int[] {-1, 2, 9, 14, LOW, HIGH}) {
            Bench.due(BAD, x.lodge(what));
        }
        x.wear(3, 30);
        // Three have one: the last of the FLOORS is nobody's.
        Bench.due(3, x.lodge(0));
        Bench.due(3, x.lodge(1));
        x.law(1, 1);
        x.wear(0, 1);
        x.wear(1, 1);
        x.wear(2, 1);
        Bench.due(0, x.lodge(0));
        Bench.due(0, x.lodge(1));
        for (int p = 0; p < 4; p++) {
            Bench.due(3 - p, x.lodge(10 + p));
        }
        // To the last of ten STEPS: by 1 5 9 he who REACHES 4, by all ten the other.
        x = Bench.told(TEN_STEPS + "lodger 4 0 0 0;lodger 1 0 0 9;");
        Bench.due(4, x.lodge(1));
        Bench.due(9, x.lodge(10));
        Bench.due(0, x.lodge(11));
        x = new RankStairs();
        Bench.due(0, x.lodge(0));
        Bench.due(0, x.lodge(1));
        Bench.due(BAD, x.lodge(10));
    }

    private static void lodgeByFewest() {
        Bench.promise(30, "FLOORS changed round among LODGERS so that most have a CLIMB, of these that by which all "
            + "their SHORTEST ones have fewest STEPS together:");
        // As they are 2 and 1 STEPS, the other way round 1 and 1.
        RankStairs x = Bench.told("iron 0 0;iron 0 0;lodger 1 0 0 1;lodger 2 0 4 0;");
        Bench.due(2, x.lodge(1));
        Bench.due(0, x.lodge(10));
        Bench.due(1, x.lodge(11));
        // With a heavy LOAD it is 1 and 2 the other way round: no fewer, so they stay.
        x.load(1, 5);
        Bench.due(3, x.lodge(1));
        Bench.due(1, x.lodge(10));
        Bench.due(0, x.lodge(11));
        // Who has none adds no STEPS.
        x.wear(1, 30);
        Bench.due(1, x.lodge(0));
        Bench.due(1, x.lodge(1));
        Bench.due(1, x.lodge(10));
    }

    private static void lodgeOfSeveral() {
        Bench.promise(30, "of several the first by LODGERS, FLOORS by whose they are now. BAD.");
        // All are alike: as they are now, though by numbers of STEPS another would be first.
        RankStairs x = Bench.told("iron 0 0;iron 0 0;iron 0 0;lodger 3 0 0 2;lodger 3 0 0 0;lodger 3 0 0 1;");
        Bench.due(2, x.lodge(10));
        Bench.due(0, x.lodge(11));
        Bench.due(1, x.lodge(12));
        // The first can not by the first's FLOOR; of the second's and the third's it is the second's.
        x = Bench.told("iron 0 0;iron 0 0;wood 30 0;lodger 3 0 0 2;lodger 3 3 0 1;lodger 3 0 0 0;");
        Bench.due(3, x.lodge(0));
        Bench.due(3, x.lodge(1));
        Bench.due(1, x.lodge(10));
        Bench.due(2, x.lodge(11));
        Bench.due(0, x.lodge(12));
        // Most have one ahead of fewest STEPS: 2 by 5 STEPS, not 1 by 1.
        x = Bench.told("landing 0 0;iron 0 0;iron 0 0;iron 0 0;lodger 1 0 0 0;lodger 1 3 0 3;");
        Bench.due(2, x.lodge(0));
        Bench.due(5, x.lodge(1));
        Bench.due(3, x.lodge(10));
        Bench.due(0, x.lodge(11));
        // The second treads iron, too: by either way 2 have one, by 5 STEPS; it stays as it is.
        x.rank(1, 1);
        Bench.due(2, x.lodge(0));
        Bench.due(5, x.lodge(1));
        Bench.due(0, x.lodge(10));
        Bench.due(3, x.lodge(11));
    }

    private static void odds() {
        Bench.promise(31, "by v out of ten (0 to 10), by itself: that a LODGER has a CLIMB: 0, 1. BAD.");
        RankStairs x = Bench.told(TEN_STEPS + "lodger 1 0 0 9;lodger 4 0 0 3;");
        long[] powers = {10000000000L, 3486784401L, 1073741824L, 282475249L, 60466176L, 9765625L, 1048576L, 59049L,
            1024L, 1L, 0L};
        for (int v = 0; v <= 10; v++) {
            long whole = 10000000000L;
            for (long d = 2; d <= 5; d += 3) {
                while (powers[v] % d == 0 && whole % d == 0 && whole > 1) {
                    powers[v] /= d;
                    whole /= d;
                }
            }
            Bench.due(powers[v], x.odds(v, 0, 0));
            Bench.due(whole, x.odds(v, 0, 1));
        }
        // By his FLOOR alone.
        Bench.due(9, x.odds(1, 1, 0));
        Bench.due(10, x.odds(1, 1, 1));
        for (int v : new int[] {-1, 11, LOW, HIGH}) {
            Bench.due(BAD, x.odds(v, 0, 0));
        }
        for (int p : new int[] {-1, 2, LOW, HIGH}) {
            Bench.due(BAD, x.odds(1, p, 0));
        }
        for (int what : new int[] {-1, 2, LOW, HIGH}) {
            Bench.due(BAD, x.odds(1, 0, what));
        }
        Bench.due(BAD, new RankStairs().odds(1, 0, 0));
    }

    private static void oddsOfKinds() {
        Bench.promise(31, "Each STEP but landings is out (as if BROKEN)");
        RankStairs x = Bench.told("landing 0 29;stone 0 0;wood 0 0;landing 0 0;lodger 1 0 0 0;lodger 1 0 0 3;"
            + "lodger 4 0 0 3;");
        for (int v : new int[] {0, 5, 10}) {
            Bench.due(1, x.odds(v, 0, 0));
            Bench.due(1, x.odds(v, 0, 1));
            Bench.due(1, x.odds(v, 2, 0));
            Bench.due(1, x.odds(v, 2, 1));
        }
        Bench.due(1, x.odds(5, 1, 0));
        Bench.due(4, x.odds(5, 1, 1));
        Bench.due(0, x.odds(10, 1, 0));
        Bench.due(1, x.odds(10, 1, 1));
        Bench.due(1, x.odds(0, 1, 0));
        x.wear(0, 30);
        Bench.due(0, x.odds(0, 0, 0));
        Bench.due(1, x.odds(0, 0, 1));
        Bench.due(1, x.odds(10, 2, 0));
    }

    private static void mean() {
        Bench.promise(32, "Likewise, the mean of how many LODGERS have one: 0, 1. BAD.");
        RankStairs x = Bench.told(TEN_STEPS + "lodger 1 0 0 9;".repeat(4));
        Bench.due(4, x.mean(0, 0));
        Bench.due(1, x.mean(0, 1));
        Bench.due(0, x.mean(10, 0));
        Bench.due(1, x.mean(10, 1));
        // 4 times 9 to the tenth, by 10 to the tenth.
        Bench.due(3486784401L, x.mean(1, 0));
        Bench.due(2500000000L, x.mean(1, 1));
        Bench.due(1, x.mean(5, 0));
        Bench.due(256, x.mean(5, 1));
        for (int v : new int[] {-1, 11, LOW, HIGH}) {
            Bench.due(BAD, x.mean(v, 0));
        }
        for (int what : new int[] {-1, 2, LOW, HIGH}) {
            Bench.due(BAD, x.mean(1, what));
        }
        // Who has none is none in the mean, too.
        x.wear(9, 30);
        Bench.due(0, x.mean(0, 0));
        Bench.due(1, x.mean(0, 1));
        for (int v : new int[] {0, 10}) {
            Bench.due(0, new RankStairs().mean(v, 0));
            Bench.due(1, new RankStairs().mean(v, 1));
        }
        Bench.due(BAD, new RankStairs().mean(11, 0));
    }
}
