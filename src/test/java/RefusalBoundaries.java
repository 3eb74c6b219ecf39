/** The first paragraph of the terms: which refusal is the first that fits, and that it changes nothing; fractions. */
final class RefusalBoundaries {
    private static final int BAD = Bench.BAD, STATE = Bench.STATE, FULL = Bench.FULL, NONE = Bench.NONE;
    private static final int LOW = Bench.LOW, HIGH = Bench.HIGH;
    private static final String FIRST = "the first that fits";
    private static final String NOTHING = "what is refused changes nothing (but THE TAPE, as told)";

    private RefusalBoundaries() {
    }

    static void run() {
        constants();
        Bench.terms(NOTHING);
        badOfTheText();
        badOfChanges();
        badOfClimbsAndDays();
        badOfPlansAndOdds();
        badOfDustAndSeed();
        badOfImagesAndSheets();
        otherRefusals();
        faultsOfSheets();
        refusedText();
        asksChangeNothing();
        Bench.terms(FIRST);
        badAheadOfState();
        badAheadOfFull();
        badAheadOfNone();
        badAheadOfFaults();
        fractions();
        lastCall();
    }

    /** 5 STEPS, 3 LODGERS, 3 DAYS, an IMAGE, SEEN, SHEETS, a TAPE, a FAULT of a text and one of a read. */
    private static void lived(RankStairs x) {
        Bench.tell(x, "wood 12 3;stone 5 10;landing 3 0;iron 40 2;wood 0 6;lodger 2 1 6 3;lodger 1 1 0 2;"
            + "lodger 3 0 0 4;gap 2;hold 60;");
        x.day(2);
        x.keep(0);
        x.day(1);
        x.see(0, 5);
        x.see(1, 4);
        x.sheet(0, 0, 3);
        x.lay(0, 1, 1);
        x.lay(0, 2, 9);
        x.sheet(1, 1, 2);
        x.lay(1, 0, 2);
        x.sheet(3, 2, 0);
        x.read(0, 1, 0, 1);
        Bench.tell(x, "wood ?");
        Bench.feed(x, "gap 3;");
    }

    private static void bad(Twins.Call call) {
        Twins.unchanged(BAD, RefusalBoundaries::lived, call);
    }

    private static void constants() {
        Bench.terms("Answers: BAD -1 (a number is not as told, there is no such STEP, LODGER, IMAGE, SHEET), STATE "
            + "-2 (as told), FULL -3, NONE -4 (there is none)");
        Bench.due(-1, RankStairs.BAD);
        Bench.due(-2, RankStairs.STATE);
        Bench.due(-3, RankStairs.FULL);
        Bench.due(-4, RankStairs.NONE);
    }

    private static void badOfTheText() {
        for (int c : new int[] {-1, 128, LOW, HIGH}) {
            bad(x -> x.feed(c));
        }
        for (int n : new int[] {-1, 7, 161, LOW, HIGH}) {
            bad(x -> x.end(n));
        }
        for (int what : new int[] {-1, 5, LOW, HIGH}) {
            bad(x -> x.rule(what));
            bad(x -> x.step(0, what));
        }
        for (int what : new int[] {-1, 6, LOW, HIGH}) {
            bad(x -> x.lodger(0, what));
        }
        for (int i : new int[] {-1, 5, LOW, HIGH}) {
            bad(x -> x.step(i, 0));
        }
        for (int p : new int[] {-1, 3, LOW, HIGH}) {
            bad(x -> x.lodger(p, 0));
        }
    }

    private static void badOfChanges() {
        for (int i : new int[] {-1, 5, LOW, HIGH}) {
            bad(x -> x.age(i, 1));
            bad(x -> x.wear(i, 1));
            bad(x -> x.mend(i));
            bad(x -> x.move(0, i));
        }
        for (int p : new int[] {-1, 3, LOW, HIGH}) {
            bad(x -> x.rank(p, 1));
            bad(x -> x.load(p, 1));
            bad(x -> x.move(p, 1));
        }
        for (int v : new int[] {-1, LOW, HIGH}) {
            bad(x -> x.age(0, v));
            bad(x -> x.wear(0, v));
            bad(x -> x.rank(0, v));
            bad(x -> x.load(0, v));
            bad(x -> x.law(0, v));
            bad(x -> x.law(1, v));
            bad(x -> x.law(v, 1));
        }
        bad(x -> x.age(0, 61));
        bad(x -> x.wear(0, 100));
        bad(x -> x.rank(0, 4));
        bad(x -> x.load(0, 10));
        bad(x -> x.law(0, 4));
        bad(x -> x.law(1, 0));
        bad(x -> x.law(1, 100));
        bad(x -> x.law(2, 1));
    }

    private static void badOfClimbsAndDays() {
        for (int p : new int[] {-1, 3, LOW, HIGH}) {
            bad(x -> x.climb(p, 0));
            bad(x -> x.climb(p, 10));
            bad(x -> x.ways(p));
            bad(x -> x.smooth(p, 0));
            bad(x -> x.stuck(p));
        }
        for (int what : new int[] {-1, 1, 9, 20, LOW, HIGH}) {
            bad(x -> x.climb(0, what));
        }
        for (int what : new int[] {-1, 2, LOW, HIGH}) {
            bad(x -> x.smooth(0, what));
            bad(x -> x.breaks(what));
        }
        for (int i : new int[] {-1, 5, LOW, HIGH}) {
            bad(x -> x.must(i));
        }
        for (int n : new int[] {-1, 61, LOW, HIGH}) {
            bad(x -> x.day(n));
            bad(x -> x.ahead(n, 0));
            bad(x -> x.hold(n));
        }
        for (int what : new int[] {-1, 2, 9, 15, LOW, HIGH}) {
            bad(x -> x.ahead(1, what));
        }
    }

    private static void badOfPlansAndOdds() {
        for (int p : new int[] {-1, 3, LOW, HIGH}) {
            bad(x -> x.gap(p));
            bad(x -> x.legs(p));
            bad(x -> x.odds(1, p, 0));
        }
        for (int what : new int[] {-1, 2, LOW, HIGH}) {
            bad(x -> x.best(what));
            bad(x -> x.odds(1, 0, what));
            bad(x -> x.mean(1, what));
        }
        for (int what : new int[] {-1, 2, 9, 13, LOW, HIGH}) {
            bad(x -> x.lodge(what));
        }
        for (int v : new int[] {-1, 11, LOW, HIGH}) {
            bad(x -> x.odds(v, 0, 0));
            bad(x -> x.mean(v, 0));
        }
    }

    private static void badOfDustAndSeed() {
        for (int i : new int[] {-1, 5, LOW, HIGH}) {
            bad(x -> x.see(i, 0));
        }
        for (int more : new int[] {-1, 41, LOW, HIGH}) {
            bad(x -> x.see(0, more));
        }
        for (int n : new int[] {-1, 3, LOW, HIGH}) {
            bad(x -> x.forget(n));
            bad(x -> x.floors(n));
        }
        for (int n : new int[] {-1, 0, 61, LOW, HIGH}) {
            bad(x -> x.drift(1, n, 0));
        }
        for (int what : new int[] {-1, 2, LOW, HIGH}) {
            bad(x -> x.drift(1, 1, what));
        }
    }

    private static void badOfImagesAndSheets() {
        for (int k : new int[] {-1, 2, LOW, HIGH}) {
            bad(x -> x.keep(k));
            bad(x -> x.back(k));
        }
        for (int k : new int[] {-1, 4, LOW, HIGH}) {
            bad(x -> x.sheet(k, 0, 1));
            bad(x -> x.lay(k, 0, 1));
            bad(x -> x.read(k, 0, 0, 1));
        }
        for (int lane : new int[] {-1, 3, LOW, HIGH}) {
            bad(x -> x.sheet(0, lane, 1));
            bad(x -> x.read(0, lane, 0, 1));
        }
        for (int n : new int[] {-1, 21, LOW, HIGH}) {
            bad(x -> x.read(0, 0, 0, n));
        }
        for (int n : new int[] {41, HIGH}) {
            bad(x -> x.sheet(0, 0, n));
        }
        for (int what : new int[] {-1, 7, LOW, HIGH}) {
            bad(x -> x.count(what));
        }
    }

    /** Nobody has a CLIMB, whatever is mended or allowed; SEEN and IMAGES are as many as there may be. */
    private static void closed(RankStairs x) {
        Bench.tell(x, "wood 0 99;iron 0 99;wood 30 3;lodger 1 0 0 2;lodger 1 3 9 1;hold 98;gap 0;");
        for (int n = 0; n < 6; n++) {
            x.see(2, 0);
        }
        x.keep(0);
        x.keep(1);
    }

    private static void lateDay(RankStairs x) {
        Bench.tell(x, "stone 0 0;lodger 1 0 0 0;hold 99;");
        for (int t = 0; t < 16; t++) {
            x.day(60);
        }
    }

    private static void otherRefusals() {
        Twins.unchanged(STATE, RefusalBoundaries::lived, x -> x.back(1));
        Twins.unchanged(STATE, x -> Bench.tell(x, "iron 0 0;"), x -> x.drift(1, 1, 0));
        Twins.unchanged(FULL, x -> Bench.feed(x, " ".repeat(160)), x -> x.feed('?'));
        Twins.unchanged(FULL, RefusalBoundaries::closed, x -> x.see(2, 1));
        Twins.unchanged(FULL, RefusalBoundaries::lateDay, x -> x.day(40));
        for (int what = 0; what <= 1; what++) {
            int asked = what;
            Twins.unchanged(NONE, RefusalBoundaries::closed, x -> x.climb(0, asked * 10));
            Twins.unchanged(NONE, RefusalBoundaries::closed, x -> x.smooth(0, asked));
            Twins.unchanged(NONE, RefusalBoundaries::closed, x -> x.breaks(asked));
            Twins.unchanged(NONE, RefusalBoundaries::closed, x -> x.best(asked));
            Twins.unchanged(NONE, RefusalBoundaries::closed, x -> x.gap(asked));
            Twins.unchanged(NONE, RefusalBoundaries::closed, x -> x.legs(asked));
        }
        Twins.unchanged(NONE, RefusalBoundaries::closed, x -> x.hold(60));
        Twins.unchanged(NONE, RefusalBoundaries::closed, x -> x.count(3));
        Twins.unchanged(NONE, RefusalBoundaries::lived, x -> x.climb(0, 14));
        Twins.unchanged(NONE, x -> Bench.tell(x, "iron 0 0;lodger 1 0 0 0;"), x -> x.stuck(0));
    }

    private static void faultsOfSheets() {
        Twins.unchanged(-14, RefusalBoundaries::lived, x -> x.sheet(0, 1, -1));
        Twins.unchanged(-14, RefusalBoundaries::lived, x -> x.sheet(2, 1, LOW));
        Twins.unchanged(-11, RefusalBoundaries::lived, x -> x.lay(2, 0, 1));
        Twins.unchanged(-12, RefusalBoundaries::lived, x -> x.lay(0, -1, 1));
        Twins.unchanged(-12, RefusalBoundaries::lived, x -> x.lay(0, 3, 1));
        Twins.unchanged(-12, RefusalBoundaries::lived, x -> x.lay(3, 0, 1));
        Twins.unchanged(-20, RefusalBoundaries::lived, x -> x.read(0, 0, 2, 1));
        Twins.unchanged(-22, RefusalBoundaries::lived, x -> x.read(0, 0, 0, 3));
    }

    /** A text that is refused empties THE TAPE and tells its FAULT; all else is as without it. */
    private static void refusedText() {
        RankStairs with = new RankStairs();
        RankStairs without = new RankStairs();
        lived(with);
        lived(without);
        Bench.feed(with, "wood 1 1;lodger 1 1 1 0;hold 1;?");
        Bench.due(-47, with.text());
        Bench.due(1, with.fault());
        without.end(0);
        Twins.same(with, without);
    }

    private static void asksChangeNothing() {
        for (Twins.Call ask : Twins.ASKS) {
            RankStairs x = new RankStairs();
            lived(x);
            Twins.unchanged(ask.on(x), RefusalBoundaries::lived, ask);
        }
    }

    private static void badAheadOfState() {
        RankStairs x = new RankStairs();
        Bench.due(BAD, x.drift(1, 0, 0));
        Bench.due(BAD, x.drift(1, 61, 0));
        Bench.due(BAD, x.drift(1, 1, -1));
        Bench.due(BAD, x.drift(1, 1, 2));
        Bench.due(STATE, x.drift(1, 1, 1));
        Bench.due(BAD, x.back(-1));
        Bench.due(BAD, x.back(2));
        Bench.due(STATE, x.back(0));
    }

    private static void badAheadOfFull() {
        RankStairs x = new RankStairs();
        Bench.feed(x, " ".repeat(160));
        Bench.due(BAD, x.feed(-1));
        Bench.due(BAD, x.feed(128));
        Bench.due(FULL, x.feed(127));
        x = new RankStairs();
        closed(x);
        Bench.due(BAD, x.see(-1, 0));
        Bench.due(BAD, x.see(3, 0));
        Bench.due(BAD, x.see(0, -1));
        Bench.due(BAD, x.see(0, 41));
        Bench.due(FULL, x.see(0, 0));
        x = new RankStairs();
        lateDay(x);
        Bench.due(BAD, x.day(61));
        Bench.due(BAD, x.day(HIGH));
        Bench.due(FULL, x.day(60));
    }

    private static void badAheadOfNone() {
        RankStairs x = new RankStairs();
        closed(x);
        for (int what : new int[] {-1, 1, 9, 20}) {
            Bench.due(BAD, x.climb(0, what));
        }
        Bench.due(NONE, x.climb(0, 19));
        for (int what : new int[] {-1, 2}) {
            Bench.due(BAD, x.smooth(0, what));
            Bench.due(BAD, x.breaks(what));
            Bench.due(BAD, x.best(what));
        }
        for (int p : new int[] {-1, 2}) {
            Bench.due(BAD, x.smooth(p, 0));
            Bench.due(BAD, x.stuck(p));
            Bench.due(BAD, x.gap(p));
            Bench.due(BAD, x.legs(p));
        }
        Bench.due(BAD, x.hold(-1));
        Bench.due(BAD, x.hold(61));
    }

    private static void badAheadOfFaults() {
        RankStairs x = Bench.told("iron 0 0;");
        Bench.due(BAD, x.sheet(-1, 0, -1));
        Bench.due(BAD, x.sheet(4, 0, -1));
        Bench.due(BAD, x.sheet(0, -1, -1));
        Bench.due(BAD, x.sheet(0, 3, -1));
        Bench.due(BAD, x.lay(-1, -1, 0));
        Bench.due(BAD, x.lay(4, -1, 0));
        x.sheet(0, 0, 1);
        // There is nobody: a read that is not refused ahead would meet no LODGER.
        Bench.due(BAD, x.read(-1, 0, 0, 1));
        Bench.due(BAD, x.read(4, 0, 0, 1));
        Bench.due(BAD, x.read(0, -1, 0, 1));
        Bench.due(BAD, x.read(0, 3, 0, 1));
        Bench.due(BAD, x.read(0, 0, 0, 21));
        Bench.due(-20, x.read(0, 0, 0, 20));
        Bench.due(0, x.torn());
    }

    private static void fractions() {
        Bench.terms("Fractions are in lowest terms, the denominator above 0 (0 is 0 by 1).");
        RankStairs x = Bench.told("iron 0 0;iron 0 0;iron 0 30;lodger 1 0 0 0;lodger 1 0 0 1;lodger 1 0 0 2;");
        long[][] oneStep = {{1, 1}, {9, 10}, {4, 5}, {7, 10}, {3, 5}, {1, 2}, {2, 5}, {3, 10}, {1, 5}, {1, 10}, {0, 1}};
        // Of q: q and q squared together.
        long[][] together = {{2, 1}, {171, 100}, {36, 25}, {119, 100}, {24, 25}, {3, 4}, {14, 25}, {39, 100}, {6, 25},
            {11, 100}, {0, 1}};
        for (int v = 0; v <= 10; v++) {
            for (int what = 0; what <= 1; what++) {
                Bench.due(oneStep[v][what], x.odds(v, 0, what));
                Bench.due(what, x.odds(v, 2, what));
                Bench.due(together[v][what], x.mean(v, what));
            }
        }
        Bench.due(0, new RankStairs().mean(0, 0));
        Bench.due(1, new RankStairs().mean(0, 1));
    }

    private static void lastCall() {
        Bench.quote("What it is", "An object is used for at most 512 calls after it has been made");
        RankStairs x = new RankStairs();
        Bench.tell(x, "stone 0 0;lodger 1 0 0 0;hold 99;");
        int calls = 34;
        for (int t = 0; t < 90; t++, calls++) {
            Bench.due(1, x.day(1));
        }
        for (int t = calls; t < 511; t++) {
            Bench.due(90, x.step(0, 2));
        }
        Bench.due(90, x.rule(4));
    }
}
