/** DAYS: promises 22 to 25, and what part 2 of the terms says of them. */
final class DayBoundaries {
    private static final int BAD = Bench.BAD, FULL = Bench.FULL, NONE = Bench.NONE;
    private static final int LOW = Bench.LOW, HIGH = Bench.HIGH;

    private DayBoundaries() {
    }

    static void run() {
        wearByKind();
        mostWear();
        byOrder();
        days();
        lastDay();
        ahead();
        aheadOfTheEnd();
        breaks();
        breaksMore();
        stuck();
    }

    private static void wearByKind() {
        Bench.terms("BY A CLIMB WEAR of each of its STEPS is more: wood 2, stone 1, iron 0, each 1 more with a LOAD "
            + "of 5 or more; landing 0 ever");
        for (int load = 0; load <= 9; load++) {
            RankStairs x = Bench.told("wood 0 7;stone 0 7;iron 0 7;landing 0 7;wood 0 7;lodger 2 0 0 3;");
            x.law(0, 3);
            x.load(0, load);
            // Light he goes by 1 3; heavy by 0 1 2 3.
            Bench.due(1, x.day(1));
            int[] want = load < 5 ? new int[] {7, 8, 7, 7, 7} : new int[] {10, 9, 8, 7, 7};
            for (int i = 0; i < 5; i++) {
                Bench.due(want[i], x.step(i, 2));
            }
        }
        RankStairs x = Bench.told("wood 0 7;stone 0 7;iron 0 7;landing 0 7;lodger 1 0 4 3;");
        x.day(1);
        int[] want = {9, 8, 7, 7};
        for (int i = 0; i < 4; i++) {
            Bench.due(want[i], x.step(i, 2));
        }
    }

    /** WEAR of a STEP of the kind, so worn, behind one CLIMB with the LOAD. */
    private static int wornBy(String kind, int wear, int load) {
        RankStairs x = Bench.told(kind + " 0 " + wear + ";lodger 1 0 " + load + " 0;hold 99;");
        Bench.due(1, x.day(1));
        return x.step(0, 2);
    }

    private static void mostWear() {
        Bench.terms("(99 at most)");
        Bench.due(98, wornBy("wood", 96, 4));
        Bench.due(99, wornBy("wood", 97, 4));
        Bench.due(99, wornBy("wood", 98, 4));
        Bench.due(98, wornBy("wood", 95, 5));
        Bench.due(99, wornBy("wood", 96, 5));
        Bench.due(99, wornBy("wood", 97, 5));
        Bench.due(99, wornBy("wood", 98, 5));
        Bench.due(98, wornBy("stone", 97, 4));
        Bench.due(99, wornBy("stone", 98, 4));
        Bench.due(99, wornBy("stone", 97, 5));
        Bench.due(99, wornBy("stone", 98, 5));
        Bench.due(98, wornBy("iron", 98, 4));
        Bench.due(98, wornBy("iron", 97, 5));
        Bench.due(99, wornBy("iron", 98, 5));
        Bench.due(98, wornBy("landing", 98, 9));
        Bench.due(0, wornBy("landing", 0, 9));
    }

    private static void byOrder() {
        Bench.terms("A DAY: LODGERS by order, each by his SHORTEST CLIMB, as it is by then; who has none stays below. "
            + "DAY is 1 more.");
        // The first breaks 1, so the second goes by 0 2 3, not by 1 3; the third has his FLOOR there and stays below.
        RankStairs x = Bench.told("wood 0 0;wood 0 28;iron 0 0;iron 0 0;lodger 2 0 0 1;lodger 2 0 0 3;lodger 1 0 0 1;");
        Bench.due(2, x.day(1));
        Bench.due(2, x.step(0, 2));
        Bench.due(30, x.step(1, 2));
        Bench.due(1, x.rule(4));
        // WEAR of 1 less, and two tread it; then it is BROKEN for all.
        x = Bench.told("wood 0 0;wood 0 27;iron 0 0;iron 0 0;lodger 2 0 0 1;lodger 1 0 0 1;lodger 2 0 0 3;");
        Bench.due(3, x.day(1));
        Bench.due(4, x.step(0, 2));
        Bench.due(31, x.step(1, 2));
        Bench.due(1, x.day(1));
        Bench.due(6, x.step(0, 2));
        Bench.due(2, x.rule(4));
        // Of a DAY on which nobody goes DAY is 1 more, too.
        x = new RankStairs();
        Bench.due(0, x.day(1));
        Bench.due(1, x.rule(4));
    }

    private static void days() {
        Bench.promise(22, "n DAYS go (0 to 60): how many CLIMBS are made in them. BAD;");
        RankStairs x = Bench.told("iron 0 0;" + "lodger 1 0 0 0;".repeat(4));
        Bench.due(0, x.day(0));
        Bench.due(0, x.rule(4));
        Bench.due(4, x.day(1));
        Bench.due(240, x.day(60));
        Bench.due(61, x.rule(4));
        for (int n : new int[] {-1, 61, LOW, HIGH}) {
            Bench.due(BAD, x.day(n));
        }
        Bench.due(61, x.rule(4));
        x.wear(0, 30);
        Bench.due(0, x.day(60));
    }

    private static RankStairs onDay(int day, String text) {
        RankStairs x = Bench.told(text);
        for (int rest = day; rest > 0; rest -= 60) {
            x.day(Math.min(rest, 60));
        }
        Bench.due(day, x.rule(4));
        return x;
    }

    private static void lastDay() {
        Bench.promise(22, "FULL: DAY would be 1000 or more.");
        RankStairs x = onDay(939, "iron 0 0;lodger 1 0 0 0;");
        Bench.due(60, x.day(60));
        Bench.due(999, x.rule(4));
        Bench.due(FULL, x.day(1));
        Bench.due(FULL, x.day(60));
        Bench.due(BAD, x.day(61));
        Bench.due(0, x.day(0));
        Bench.due(999, x.rule(4));
        x = onDay(940, "wood 0 0;lodger 1 0 0 0;hold 99;");
        Bench.due(99, x.step(0, 2));
        x.mend(0);
        Bench.due(FULL, x.day(60));
        Bench.due(0, x.step(0, 2));
        Bench.due(940, x.rule(4));
        Bench.due(50, x.day(59));
        Bench.due(999, x.rule(4));
        // By an image an earlier DAY comes back.
        x = onDay(60, "iron 0 0;lodger 1 0 0 0;");
        x.keep(0);
        for (int t = 0; t < 15; t++) {
            x.day(60);
        }
        Bench.due(FULL, x.day(40));
        Bench.due(60, x.back(0));
        Bench.due(40, x.day(40));
    }

    private static void ahead() {
        Bench.promise(23, "Behind n DAYS (0 to 60): CLIMBS made in them (what 0), STEPS that are BROKEN then (1; "
            + "bits); 10 and i: WEAR of STEP i. BAD.");
        RankStairs x = Bench.told("stone 0 10;iron 0 0;lodger 1 0 0 1;lodger 1 0 0 0;hold 70;");
        Bench.due(0, x.ahead(0, 0));
        Bench.due(0, x.ahead(0, 1));
        Bench.due(10, x.ahead(0, 10));
        Bench.due(2, x.ahead(1, 0));
        Bench.due(12, x.ahead(1, 10));
        // 2 more by a DAY: 70 behind 30.
        Bench.due(0, x.ahead(29, 1));
        Bench.due(1, x.ahead(30, 1));
        Bench.due(68, x.ahead(29, 10));
        Bench.due(70, x.ahead(60, 10));
        Bench.due(60, x.ahead(60, 0));
        Bench.due(0, x.ahead(60, 11));
        for (int n : new int[] {-1, 61, LOW, HIGH}) {
            for (int what : new int[] {0, 1, 10}) {
                Bench.due(BAD, x.ahead(n, what));
            }
        }
        for (int what : new int[] {-1, 2, 9, 12, LOW, HIGH}) {
            Bench.due(BAD, x.ahead(1, what));
        }
        x = Bench.told("iron0 5;".repeat(10));
        Bench.due(5, x.ahead(60, 19));
        Bench.due(BAD, x.ahead(60, 20));
        x.law(1, 5);
        Bench.due(1023, x.ahead(60, 1));
        Bench.due(0, new RankStairs().ahead(60, 0));
        Bench.due(BAD, new RankStairs().ahead(60, 10));
    }

    /** The document refuses days of which DAY would be 1000 by day(n) alone. */
    private static void aheadOfTheEnd() {
        Bench.promise(23, "Behind n DAYS (0 to 60): CLIMBS made in them (what 0)");
        RankStairs x = onDay(999, "iron 0 0;lodger 1 0 0 0;");
        Bench.due(60, x.ahead(60, 0));
        Bench.due(NONE, x.breaks(0));
        Bench.due(NONE, x.stuck(0));
        Bench.due(1, x.hold(60));
        Bench.due(999, x.rule(4));
    }

    private static void breaks() {
        Bench.promise(24, "Behind how many DAYS (1 to 60) first a STEP more than now is BROKEN (what 0), the lowest "
            + "such (1). BAD; NONE: behind none.");
        RankStairs x = Bench.told("stone 0 29;lodger 1 0 0 0;");
        Bench.due(1, x.breaks(0));
        Bench.due(0, x.breaks(1));
        x.law(1, 99);
        x.wear(0, 39);
        Bench.due(60, x.breaks(0));
        Bench.due(0, x.breaks(1));
        x.wear(0, 38);
        Bench.due(NONE, x.breaks(0));
        Bench.due(NONE, x.breaks(1));
        x.wear(0, 40);
        Bench.due(59, x.breaks(0));
        for (int what : new int[] {-1, 2, LOW, HIGH}) {
            Bench.due(BAD, x.breaks(what));
        }
        Bench.due(NONE, new RankStairs().breaks(0));
        Bench.due(NONE, new RankStairs().breaks(1));
    }

    private static void breaksMore() {
        Bench.promise(24, "first a STEP more than now is BROKEN (what 0), the lowest such (1)");
        // 0 is BROKEN now; 1 and 2 wear alike.
        RankStairs x = Bench.told("stone 0 30;stone 0 20;stone 0 20;stone 0 28;lodger 2 0 0 1;lodger 3 0 0 2;");
        Bench.due(10, x.breaks(0));
        Bench.due(1, x.breaks(1));
        x.wear(2, 21);
        Bench.due(9, x.breaks(0));
        Bench.due(2, x.breaks(1));
        x.wear(1, 30);
        Bench.due(9, x.breaks(0));
        Bench.due(2, x.breaks(1));
        x.wear(2, 30);
        Bench.due(NONE, x.breaks(0));
    }

    private static void stuck() {
        Bench.promise(25, "Behind how many DAYS (0 to 60) first a LODGER has no CLIMB. BAD; NONE: behind none.");
        RankStairs x = Bench.told("stone 0 30;lodger 1 0 0 0;");
        Bench.due(0, x.stuck(0));
        x.wear(0, 29);
        Bench.due(1, x.stuck(0));
        x.law(1, 99);
        x.wear(0, 39);
        Bench.due(60, x.stuck(0));
        x.wear(0, 38);
        Bench.due(NONE, x.stuck(0));
        for (int p : new int[] {-1, 1, LOW, HIGH}) {
            Bench.due(BAD, x.stuck(p));
        }
        Bench.due(BAD, new RankStairs().stuck(0));
    }
}
