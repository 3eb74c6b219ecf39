/** Each promise of the document by hand: ordinary inputs, the edges that it names, wrong inputs. */
public final class PromisesTest {
    private static final int BAD = -1, STATE = -2, FULL = -3, NONE = -4;
    private static final int LOW = Integer.MIN_VALUE, HIGH = Integer.MAX_VALUE;
    /**
     * RANKS of the STEPS: 1, 1, 0, landing, 3, 1, 3. The first LODGER MAY TREAD 0 1 2 3 5, the second
     * 0 1 3 4 5 6, the third 0 1 2 3 5; they REACH 2, 2, 1.
     */
    private static final String HOUSE = "wood 12 3;stone 5 10;iron 40 2;landing 3 0;wood 35 8;wood 18 27;stone 22 1;"
        + "lodger 2 1 3 6;lodger 3 2 7 5;lodger 1 0 0 3;gap 1;hold 30;";
    private static int promise = 0;
    private static int checks = 0;
    private static int wrong = 0;

    private static void due(long want, long got) {
        checks++;
        if (want != got) {
            wrong++;
            StackTraceElement at = new Throwable().getStackTrace()[1];
            System.out.println("promise " + promise + ", line " + at.getLineNumber() + ": answered " + got
                + ", due is " + want);
        }
    }

    private static int put(RankStairs x, String text) {
        for (int i = 0; i < text.length(); i++) {
            x.feed(text.charAt(i));
        }
        return x.text();
    }

    /** A new object of which the text was taken. */
    private static RankStairs told(String text) {
        RankStairs x = new RankStairs();
        if (put(x, text) < 0) {
            wrong++;
            System.out.println("promise " + promise + ": not taken: " + text);
        }
        return x;
    }

    private static void refused(String text, int fault, int place) {
        RankStairs x = told("iron 7 7;");
        due(-10 - place, put(x, text));
        due(fault, x.fault());
        due(1, x.rule(0));
        due(7, x.step(0, 1));
        due(0, x.count(2));
    }

    private static void newObject() {
        RankStairs x = new RankStairs();
        for (int what = 0; what < 5; what++) {
            due(new int[] {0, 0, 1, 30, 0}[what], x.rule(what));
        }
        due(0, x.count(0));
        due(0, x.count(1));
        due(0, x.count(2));
        due(NONE, x.count(3));
        for (int k = 0; k < 4; k++) {
            due(-11, x.lay(k, 0, 0));
        }
        due(BAD, x.step(0, 0));
        due(BAD, x.lodger(0, 0));
        due(STATE, x.back(0));
        due(0, x.fault());
        due(0, x.torn());
        due(BAD, RankStairs.BAD);
        due(STATE, RankStairs.STATE);
        due(FULL, RankStairs.FULL);
        due(NONE, RankStairs.NONE);
    }

    private static void feed() {
        RankStairs x = new RankStairs();
        for (int n = 1; n <= 160; n++) {
            due(n, x.feed(n % 128));
        }
        due(FULL, x.feed(0));
        due(BAD, x.feed(128));
        due(BAD, x.feed(-1));
        due(160, x.count(2));
        due(160, x.end(159));
        due(BAD, x.feed(HIGH));
        due(160, x.feed(127));
    }

    private static void end() {
        RankStairs x = new RankStairs();
        due(BAD, x.end(1));
        due(0, x.end(0));
        for (char c : "gap 2;x".toCharArray()) {
            x.feed(c);
        }
        due(BAD, x.end(8));
        due(BAD, x.end(-1));
        due(7, x.end(7));
        due(7, x.end(6));
        due(1, x.text());
        due(2, x.rule(2));
        due(0, x.end(0));
        // What is cut off is not read.
        for (char c : "gap 12".toCharArray()) {
            x.feed(c);
        }
        x.end(5);
        due(-15, x.text());
        due(2, x.fault());
    }

    /** THE TAPE is full to its last byte, in every kind of TOKEN and in blanks. */
    private static void textToTheLastByte() {
        String blanks = " ".repeat(160);
        String[] last = {"", "gap 1;", "hold", "gap 12", "gap 123", "gap 1", "?"};
        int[] want = {0, 1, -170, -168, -167, -170, -169};
        for (int k = 0; k < last.length; k++) {
            due(want[k], put(new RankStairs(), blanks.substring(last[k].length()) + last[k]));
        }
    }

    private static void text() {
        RankStairs x = new RankStairs();
        due(12, put(x, HOUSE));
        due(0, x.count(2));
        due(7, x.rule(0));
        x.day(3);
        x.see(0, 1);
        x.keep(0);
        x.sheet(0, 1, 3);
        due(-10, put(x, "Wood 1 1;"));
        due(3, x.rule(4));
        due(1, x.count(0));
        due(1, x.count(1));
        due(2, put(x, "  landing  01 2 ; lodger4 3 9 0;  "));
        due(1, x.rule(0));
        due(1, x.rule(1));
        due(1, x.rule(2));
        due(30, x.rule(3));
        due(0, x.rule(4));
        due(1, x.step(0, 1));
        due(0, x.count(0));
        due(0, x.count(1));
        due(STATE, x.back(0));
        due(3, x.count(3));
        due(0, x.text());
        due(0, x.rule(0));
        due(0, x.rule(1));
        String ten = "iron 0 0;iron 0 0;iron 0 0;iron 0 0;iron 0 0;iron 0 0;iron 0 0;iron 0 0;iron 0 0;iron 0 0;";
        due(11, put(x, ten + "lodger 1 0 0 9;"));
        due(1, x.ways(0));
        due(10, x.climb(0, 0));
        x = new RankStairs();
        due(12, put(x, HOUSE));
        due(4, put(x, "lodger 1 0 0 0;lodger 1 0 0 0;hold 99;wood 60 99;"));
        due(-10 - 90, put(x, ten + "wood 1 1;"));
        due(5, x.fault());
        // Nothing of what was told ahead, or tried since, is left.
        x = told("gap 3;hold 9;");
        x.day(3);
        x.ahead(1, 0);
        due(1, put(x, "iron 0 0;"));
        due(1, x.rule(2));
        due(30, x.rule(3));
        due(0, x.rule(4));
        smallAfterLarge();
    }

    private static void smallAfterLarge() {
        RankStairs x = told("wood 9 31;wood 9 31;wood 9 31;wood 9 31;iron 0 0;"
            + "lodger 4 0 0 4;lodger 4 0 0 0;lodger 4 0 0 4;lodger 4 0 0 4;");
        due(4, x.year());
        x.law(1, 99);
        due(15, x.homes());
        due(2, put(x, "wood 0 9;lodger 1 0 0 0;"));
        due(0, x.count(4));
        due(9, x.count(5));
        due(1, x.count(6));
        due(1, x.homes());
        due(1, x.must(0));
        due(10, x.hold(0));
        due(0, x.ahead(1, 1));
        due(11, x.breaks(0));
        due(0, x.breaks(1));
        due(1, x.mean(0, 0));
        due(1, x.lodge(0));
        due(1, x.lodge(1));
        due(NONE, x.best(0));
        due(1, x.fits());
        due(0, x.year());
        due(1, x.day(1));
    }

    private static void fault() {
        refused("wood 1 1;?", 1, 9);
        refused("wood 100 1;", 1, 5);
        refused("012", 1, 0);
        refused("wood 61 100;", 3, 5);
        refused("wood\t1 1;", 1, 4);
        refused("woods 1 1;", 2, 0);
        refused("food 1 1;", 2, 0);
        refused("z", 2, 0);
        refused("stone 61 1;", 3, 6);
        refused("iron 61 1;", 3, 5);
        refused("landing 61 1;", 3, 8);
        refused("{", 1, 0);
        refused("gap :", 1, 4);
        refused("gap /", 1, 4);
        refused("wood 1 1;;", 2, 9);
        refused("12", 2, 0);
        refused("wood ; 1;", 2, 5);
        refused("stone 1 2 3;", 2, 10);
        refused("stone 1 2 stone", 2, 10);
        refused("stone 1 ", 2, 8);
        refused("stone 1 2  ", 2, 11);
        refused("wood 61 0;", 3, 5);
        refused("lodger 0 0 0 0;", 3, 7);
        refused("lodger 5 0 0 0;", 3, 7);
        refused("lodger 4 4 0 0;", 3, 9);
        refused("lodger 4 3 10 0;", 3, 11);
        refused("lodger 4 3 9 10;", 3, 13);
        refused("gap 4;", 3, 4);
        refused("hold 0;", 3, 5);
        refused("hold 00;", 3, 5);
        refused("gap 1;gap 4;", 4, 6);
        refused("hold 1;gap 1;hold;", 4, 13);
        refused("lodger 1 0 0 0;lodger 1 0 0 0;lodger 1 0 0 0;lodger 1 0 0 0;lodger", 5, 60);
        refused("lodger 1 0 0 0; ", 6, 16);
        refused("iron 0 0;lodger 1 0 0 1;", 6, 24);
        RankStairs x = told("lodger 1 0 0 1;iron 0 0;iron 0 0;");
        due(0, x.fault());
        put(x, "a");
        due(2, x.fault());
        x.feed('a');
        due(2, x.fault());
        x.end(0);
        x.text();
        due(0, x.fault());
    }

    private static void rule() {
        RankStairs x = told(HOUSE);
        due(7, x.rule(0));
        due(3, x.rule(1));
        due(1, x.rule(2));
        due(30, x.rule(3));
        x.day(2);
        due(2, x.rule(4));
        due(BAD, x.rule(5));
        due(BAD, x.rule(-1));
    }

    private static void step() {
        RankStairs x = told("wood 9 0;wood 10 29;wood 30 30;stone 9 0;stone 19 0;stone 20 0;iron 60 99;landing 45 1;"
            + "wood 60 4;landing 0 0;");
        int[] ranks = {0, 1, 3, 1, 2, 3, 0, 3, 3, 1};
        int[] kinds = {0, 0, 0, 1, 1, 1, 2, 3, 0, 3};
        for (int i = 0; i < 10; i++) {
            due(kinds[i], x.step(i, 0));
            due(ranks[i], x.step(i, 3));
            due(i == 2 || i == 6 ? 1 : 0, x.step(i, 4));
        }
        due(60, x.step(6, 1));
        due(99, x.step(6, 2));
        due(BAD, x.step(10, 0));
        due(BAD, x.step(-1, 0));
        due(BAD, x.step(0, 5));
        due(BAD, x.step(0, -1));
    }

    private static void lodger() {
        RankStairs x = told(HOUSE);
        int[][] want = {{2, 1, 3, 6, 2, 47}, {3, 2, 7, 5, 2, 123}, {1, 0, 0, 3, 1, 47}};
        for (int p = 0; p < 3; p++) {
            for (int what = 0; what < 6; what++) {
                due(want[p][what], x.lodger(p, what));
            }
        }
        x.wear(3, 30);
        due(39, x.lodger(0, 5));
        x.load(0, 4);
        due(2, x.lodger(0, 4));
        x.load(0, 5);
        due(1, x.lodger(0, 4));
        x.load(2, 9);
        due(1, x.lodger(2, 4));
        due(BAD, x.lodger(3, 0));
        due(BAD, x.lodger(-1, 0));
        due(BAD, x.lodger(0, 6));
        due(BAD, x.lodger(0, -1));
    }

    private static void age() {
        RankStairs x = told(HOUSE);
        due(12, x.age(0, 60));
        due(3, x.step(0, 3));
        due(60, x.age(0, 0));
        due(BAD, x.age(0, 61));
        due(BAD, x.age(0, -1));
        due(BAD, x.age(7, 1));
        due(BAD, x.age(-1, 1));
        due(0, x.step(0, 1));
    }

    private static void wear() {
        RankStairs x = told(HOUSE);
        due(3, x.wear(0, 99));
        due(1, x.step(0, 4));
        due(99, x.wear(0, 0));
        due(BAD, x.wear(0, 100));
        due(BAD, x.wear(0, -1));
        due(BAD, x.wear(7, 1));
        due(BAD, x.wear(LOW, 1));
        due(0, x.step(0, 2));
    }

    private static void mend() {
        RankStairs x = told(HOUSE);
        due(27, x.mend(5));
        due(0, x.step(5, 1));
        due(0, x.step(5, 2));
        due(0, x.step(5, 0));
        due(0, x.mend(5));
        due(BAD, x.mend(7));
        due(BAD, x.mend(-1));
    }

    private static void rank() {
        RankStairs x = told(HOUSE);
        due(1, x.rank(0, 3));
        due(3, x.rank(0, 0));
        due(BAD, x.rank(0, 4));
        due(BAD, x.rank(0, -1));
        due(BAD, x.rank(3, 1));
        due(BAD, x.rank(-1, 1));
        due(0, x.lodger(0, 1));
    }

    private static void load() {
        RankStairs x = told(HOUSE);
        due(3, x.load(0, 9));
        due(9, x.load(0, 0));
        due(BAD, x.load(0, 10));
        due(BAD, x.load(0, -1));
        due(BAD, x.load(3, 1));
        due(BAD, x.load(-1, 1));
        due(0, x.lodger(0, 2));
    }

    private static void move() {
        RankStairs x = told(HOUSE);
        due(6, x.move(0, 0));
        due(0, x.move(0, 6));
        due(BAD, x.move(0, 7));
        due(BAD, x.move(0, -1));
        due(BAD, x.move(3, 0));
        due(BAD, x.move(-1, 0));
        due(6, x.lodger(0, 3));
    }

    private static void law() {
        RankStairs x = told(HOUSE);
        due(1, x.law(0, 3));
        due(3, x.law(0, 0));
        due(0, x.rule(2));
        due(30, x.law(1, 99));
        due(99, x.law(1, 1));
        due(1, x.rule(3));
        due(BAD, x.law(0, 4));
        due(BAD, x.law(0, -1));
        due(BAD, x.law(1, 0));
        due(BAD, x.law(1, 100));
        due(BAD, x.law(2, 1));
        due(BAD, x.law(-1, 1));
        due(0, x.rule(2));
        due(1, x.rule(3));
    }

    private static void year() {
        RankStairs x = told("wood 9 0;stone 19 0;iron 29 0;landing 9 0;wood 60 0;wood 8 0;stone 29 0;wood 59 0;");
        due(3, x.year());
        due(10, x.step(0, 1));
        due(30, x.step(2, 1));
        due(60, x.step(4, 1));
        due(60, x.step(7, 1));
        due(1, x.year());
        due(0, x.rule(4));
        due(60, x.step(7, 1));
    }

    private static void climb() {
        RankStairs x = told(HOUSE);
        due(NONE, x.climb(0, 0));
        due(NONE, x.climb(0, 10));
        due(3, x.climb(1, 0));
        due(1, x.climb(1, 10));
        due(3, x.climb(1, 11));
        due(5, x.climb(1, 12));
        due(NONE, x.climb(1, 13));
        due(NONE, x.climb(1, 19));
        due(BAD, x.climb(1, 20));
        due(BAD, x.climb(1, 9));
        due(BAD, x.climb(1, 1));
        due(BAD, x.climb(1, -1));
        due(BAD, x.climb(3, 0));
        due(BAD, x.climb(-1, 0));
        due(BAD, x.climb(0, LOW));
        // Two STEPS will do by 0 4, 1 4, 2 4, 3 4: the first by numbers.
        x = told("iron 0 0;iron 0 0;iron 0 0;iron 0 0;iron 0 0;lodger 4 0 0 4;");
        due(2, x.climb(0, 0));
        due(0, x.climb(0, 10));
        due(4, x.climb(0, 11));
        x.move(0, 3);
        due(1, x.climb(0, 0));
        due(3, x.climb(0, 10));
        // By 0 2 4 5 or 1 2 4 5.
        x = told("iron 0 0;iron 0 0;iron 0 0;iron 0 30;iron 0 0;iron 0 0;lodger 2 0 0 5;");
        due(4, x.climb(0, 0));
        due(0, x.climb(0, 10));
        due(2, x.climb(0, 11));
        due(4, x.climb(0, 12));
        due(5, x.climb(0, 13));
        // The first by numbers is not the first by its lowest STEP's way up: 0 has none of as few.
        x = told("iron 0 0;iron 0 0;iron 0 0;iron 0 30;iron 0 0;lodger 3 0 0 4;");
        due(2, x.climb(0, 0));
        due(1, x.climb(0, 10));
    }

    private static void ways() {
        RankStairs x = told(HOUSE);
        due(0, x.ways(0));
        due(4, x.ways(1));
        due(1, x.ways(2));
        due(BAD, x.ways(3));
        due(BAD, x.ways(-1));
        x = told("iron 0 0;iron 0 0;iron 0 0;iron 0 0;iron 0 0;iron 0 0;iron 0 0;iron 0 0;iron 0 0;iron 0 0;"
            + "lodger 2 0 0 9;lodger 1 0 0 9;lodger 4 0 0 3;");
        due(89, x.ways(0));
        due(1, x.ways(1));
        due(8, x.ways(2));
    }

    private static void smooth() {
        RankStairs x = told(HOUSE);
        due(NONE, x.smooth(0, 0));
        due(NONE, x.smooth(0, 1));
        due(27, x.smooth(1, 0));
        due(3, x.smooth(1, 1));
        due(BAD, x.smooth(1, 2));
        due(BAD, x.smooth(1, -1));
        due(BAD, x.smooth(3, 0));
        due(BAD, x.smooth(-1, 0));
        // By 1 alone WEAR is 9; by 0 2 it is 4.
        x = told("iron 0 4;iron 0 9;iron 0 3;iron 0 1;lodger 2 0 0 3;");
        due(4, x.smooth(0, 0));
        due(3, x.smooth(0, 1));
        due(2, x.climb(0, 0));
        x.wear(1, 4);
        due(4, x.smooth(0, 0));
        due(2, x.smooth(0, 1));
        // The STEP between is of too high a RANK; the first is too worn to be passed over unseen.
        x = told("iron 0 9;wood 30 0;iron 0 2;lodger 2 0 0 2;lodger 3 0 0 2;");
        due(9, x.smooth(0, 0));
        due(2, x.smooth(0, 1));
        due(2, x.smooth(1, 0));
        due(1, x.smooth(1, 1));
        x = told("iron 0 0;lodger 1 0 0 0;");
        due(0, x.smooth(0, 0));
    }

    private static void homes() {
        RankStairs x = told(HOUSE);
        due(6, x.homes());
        x.move(0, 3);
        due(7, x.homes());
        x.law(1, 1);
        due(0, x.homes());
        due(0, new RankStairs().homes());
    }

    private static void must() {
        RankStairs x = told(HOUSE);
        int[] want = {4, 6, 4, 6, 0, 2, 0};
        for (int i = 0; i < 7; i++) {
            due(want[i], x.must(i));
        }
        due(1, told("iron 0 0;iron 0 0;lodger 1 0 0 1;lodger 2 0 0 1;").must(0));
        due(BAD, x.must(7));
        due(BAD, x.must(-1));
    }

    private static void day() {
        RankStairs x = told(HOUSE);
        due(0, x.day(0));
        due(0, x.rule(4));
        due(2, x.day(1));
        int[] wears = {5, 13, 2, 0, 8, 30, 1};
        for (int i = 0; i < 7; i++) {
            due(wears[i], x.step(i, 2));
        }
        due(1, x.rule(4));
        due(4, x.day(4));
        due(5, x.rule(4));
        due(BAD, x.day(61));
        due(BAD, x.day(-1));
        for (int t = 0; t < 16; t++) {
            x.day(60);
        }
        due(965, x.rule(4));
        due(FULL, x.day(35));
        due(BAD, x.day(61));
        due(965, x.rule(4));
        x.day(34);
        due(FULL, x.day(1));
        due(0, x.day(0));
        due(999, x.rule(4));
        // The first one breaks what the second would tread; WEAR is 99 at most; landings never wear.
        x = told("wood 0 97;landing 0 0;iron 0 0;lodger 1 0 9 2;lodger 1 0 9 2;hold 99;");
        due(1, x.day(1));
        due(99, x.step(0, 2));
        due(0, x.step(1, 2));
        due(1, x.step(2, 2));
    }

    private static void ahead() {
        RankStairs x = told(HOUSE);
        due(0, x.ahead(0, 0));
        due(2, x.ahead(1, 0));
        due(6, x.ahead(5, 0));
        due(0, x.ahead(0, 1));
        due(32, x.ahead(1, 1));
        due(27, x.ahead(0, 15));
        due(30, x.ahead(60, 15));
        due(13, x.ahead(1, 11));
        due(0, x.rule(4));
        due(27, x.step(5, 2));
        due(BAD, x.ahead(61, 0));
        due(BAD, x.ahead(-1, 0));
        due(BAD, x.ahead(1, 2));
        due(BAD, x.ahead(1, 17));
        due(BAD, x.ahead(1, 9));
        due(BAD, x.ahead(1, -1));
        for (int t = 0; t < 16; t++) {
            x.day(60);
        }
        due(0, x.ahead(60, 10) - x.step(0, 2));
    }

    private static void breaks() {
        RankStairs x = told(HOUSE);
        due(1, x.breaks(0));
        due(5, x.breaks(1));
        due(BAD, x.breaks(2));
        due(BAD, x.breaks(-1));
        due(0, x.rule(4));
        x = told("wood 0 99;wood 0 4;iron 0 0;lodger 2 0 0 2;hold 10;");
        due(3, x.breaks(0));
        due(1, x.breaks(1));
        x.wear(1, 10);
        due(NONE, x.breaks(0));
        due(NONE, x.breaks(1));
        // Both break on the 60th DAY, or a DAY too late.
        x = told("stone 0 39;stone 0 39;lodger 1 0 0 1;hold 99;");
        due(60, x.breaks(0));
        due(0, x.breaks(1));
        x.wear(0, 38);
        x.wear(1, 38);
        due(NONE, x.breaks(0));
    }

    private static void stuck() {
        RankStairs x = told(HOUSE);
        due(0, x.stuck(0));
        due(1, x.stuck(1));
        due(14, x.stuck(2));
        due(BAD, x.stuck(3));
        due(BAD, x.stuck(-1));
        due(0, x.rule(4));
        x = told("stone 0 39;lodger 1 0 0 0;hold 99;");
        due(60, x.stuck(0));
        x.wear(0, 38);
        due(NONE, x.stuck(0));
    }

    private static void gap() {
        RankStairs x = told(HOUSE);
        due(2, x.gap(0));
        due(1, x.gap(1));
        due(1, x.gap(2));
        due(BAD, x.gap(3));
        due(BAD, x.gap(-1));
        due(1, x.rule(2));
        x.rank(0, 0);
        due(3, x.gap(0));
        x.wear(6, 30);
        due(NONE, x.gap(0));
        x = told("landing 60 0;lodger 1 0 0 0;gap 3;");
        due(0, x.gap(0));
    }

    private static void legs() {
        RankStairs x = told("iron 0 0;iron 0 30;iron 0 30;iron 0 0;lodger 4 0 0 3;lodger 1 0 5 3;lodger 4 0 0 0;");
        due(3, x.legs(0));
        due(4, x.legs(1));
        due(1, x.legs(2));
        due(1, x.lodger(1, 0));
        due(BAD, x.legs(3));
        due(BAD, x.legs(-1));
        x.wear(0, 30);
        due(4, x.legs(0));
        due(NONE, x.legs(1));
    }

    private static void hold() {
        RankStairs x = told(HOUSE);
        due(28, x.hold(0));
        due(31, x.hold(1));
        due(34, x.hold(2));
        due(BAD, x.hold(61));
        due(BAD, x.hold(-1));
        due(30, x.rule(3));
        due(0, x.rule(4));
        due(NONE, x.hold(60));
        due(1, new RankStairs().hold(60));
        x = told("iron 0 98;");
        due(99, x.hold(60));
        x = told("stone 0 97;lodger 1 0 0 0;");
        due(99, x.hold(1));
        due(NONE, x.hold(2));
        x.wear(0, 99);
        due(NONE, x.hold(0));
        // By a HOLD under what there is all would be BROKEN now.
        x = told("wood 0 5;lodger 1 0 0 0;hold 1;");
        due(6, x.hold(0));
        due(8, x.hold(1));
    }

    private static void best() {
        RankStairs x = told(HOUSE);
        due(6, x.best(0));
        due(3, x.best(1));
        due(BAD, x.best(2));
        due(BAD, x.best(-1));
        due(22, x.step(6, 1));
        x = told("iron 0 99;iron 0 99;iron 0 0;lodger 2 0 0 2;lodger 3 0 0 2;lodger 2 0 0 1;");
        due(1, x.best(0));
        due(3, x.best(1));
        x.mend(1);
        due(NONE, x.best(0));
        due(NONE, x.best(1));
        // Either will do: the lowest.
        x = told("iron 0 99;iron 0 99;iron 0 0;lodger 2 0 0 2;");
        due(0, x.best(0));
        due(1, x.best(1));
        // A new board is of RANK 0: who MAY TREAD old ones alone has nothing of it.
        x = told("wood 30 99;lodger 1 3 0 0;");
        due(NONE, x.best(0));
        x.law(0, 3);
        due(0, x.best(0));
    }

    private static void lodge() {
        RankStairs x = told("iron 0 0;iron 0 0;iron 0 0;iron 0 0;lodger 1 0 0 3;lodger 4 0 0 0;lodger 2 0 0 1;");
        // 0 at 0, 1 at 3, 2 at 1: one STEP each.
        due(3, x.lodge(0));
        due(3, x.lodge(1));
        due(0, x.lodge(10));
        due(3, x.lodge(11));
        due(1, x.lodge(12));
        due(BAD, x.lodge(13));
        due(BAD, x.lodge(9));
        due(BAD, x.lodge(2));
        due(BAD, x.lodge(-1));
        due(3, x.lodger(0, 3));
        // All are alike: as it is, then by whose FLOORS are first.
        x = told("iron 0 0;iron 0 0;lodger 2 0 0 1;lodger 2 0 0 0;");
        due(2, x.lodge(1));
        due(1, x.lodge(10));
        due(0, x.lodge(11));
        // More who have a CLIMB, though by more STEPS.
        x = told("iron 0 0;iron 0 0;wood 30 0;lodger 1 0 0 0;lodger 3 3 0 1;lodger 3 0 0 2;gap 0;");
        due(3, x.lodge(0));
        due(3, x.lodge(1));
        due(0, x.lodge(10));
        due(2, x.lodge(11));
        due(1, x.lodge(12));
        due(0, new RankStairs().lodge(0));
        due(0, new RankStairs().lodge(1));
        due(BAD, new RankStairs().lodge(10));
    }

    private static void odds() {
        RankStairs x = told("iron 0 0;iron 0 0;iron 0 0;lodger 1 0 0 2;lodger 2 0 0 2;lodger 3 0 0 2;");
        // (7/10)^3; 7/10 (1 - 9/100); 7/10.
        due(343, x.odds(3, 0, 0));
        due(1000, x.odds(3, 0, 1));
        due(637, x.odds(3, 1, 0));
        due(1000, x.odds(3, 1, 1));
        due(7, x.odds(3, 2, 0));
        due(10, x.odds(3, 2, 1));
        due(1, x.odds(5, 0, 0));
        due(8, x.odds(5, 0, 1));
        due(1, x.odds(0, 0, 0));
        due(1, x.odds(0, 0, 1));
        due(0, x.odds(10, 0, 0));
        due(1, x.odds(10, 0, 1));
        due(BAD, x.odds(11, 0, 0));
        due(BAD, x.odds(-1, 0, 0));
        due(BAD, x.odds(1, 3, 0));
        due(BAD, x.odds(1, -1, 0));
        due(BAD, x.odds(1, 0, 2));
        due(BAD, x.odds(1, 0, -1));
        x = told("iron 0 0;iron 0 0;iron 0 0;iron 0 0;iron 0 0;iron 0 0;iron 0 0;iron 0 0;iron 0 0;iron 0 0;"
            + "lodger 1 0 0 9;");
        due(3486784401L, x.odds(1, 0, 0));
        due(10000000000L, x.odds(1, 0, 1));
        // Landings are never out, but BROKEN they can be.
        x = told("landing 0 0;wood 0 0;lodger 1 0 0 1;");
        due(9, x.odds(1, 0, 0));
        due(10, x.odds(1, 0, 1));
        x.wear(0, 30);
        due(0, x.odds(1, 0, 0));
        due(1, x.odds(1, 0, 1));
    }

    private static void oddsOverAGap() {
        RankStairs x = told("iron 0 0;wood 30 0;iron 0 0;iron 0 0;lodger 2 0 0 3;");
        // 0, 2 and 3 must all be in: 1/8.
        due(1, x.odds(5, 0, 0));
        due(8, x.odds(5, 0, 1));
    }

    private static void mean() {
        RankStairs x = told("iron 0 0;iron 0 0;lodger 1 0 0 1;lodger 2 0 0 1;lodger 1 0 0 0;");
        // 1/4, 1/2, 1/2.
        due(5, x.mean(5, 0));
        due(4, x.mean(5, 1));
        due(3, x.mean(0, 0));
        due(1, x.mean(0, 1));
        due(0, x.mean(10, 0));
        due(1, x.mean(10, 1));
        due(BAD, x.mean(11, 0));
        due(BAD, x.mean(-1, 0));
        due(BAD, x.mean(1, 2));
        due(BAD, x.mean(1, -1));
        due(0, new RankStairs().mean(5, 0));
        due(1, new RankStairs().mean(5, 1));
    }

    private static void see() {
        RankStairs x = told(HOUSE);
        due(BAD, x.see(7, 0));
        due(BAD, x.see(-1, 0));
        due(BAD, x.see(0, 41));
        due(BAD, x.see(0, -1));
        for (int n = 1; n <= 6; n++) {
            due(n, x.see(n, 40));
        }
        due(FULL, x.see(0, 0));
        due(BAD, x.see(7, 0));
        due(6, x.count(0));
        due(0, x.fits());
    }

    private static void forget() {
        RankStairs x = told("wood 0 0;wood 0 0;lodger 1 0 0 0;");
        x.see(1, 2);
        x.see(0, 7);
        due(0, x.fits());
        due(BAD, x.forget(3));
        due(BAD, x.forget(-1));
        due(2, x.forget(2));
        due(2, x.forget(1));
        due(1, x.fits());
        due(2, x.see(0, 2));
        due(2, x.floors(0));
        due(2, x.forget(0));
        due(0, x.forget(0));
        due(2, x.fits());
    }

    private static void fits() {
        RankStairs x = told("wood 0 0;stone 0 0;wood 0 9;lodger 1 0 0 0;lodger 3 1 9 0;hold 9;");
        due(9, x.fits());
        x.see(0, 2);
        // The first by 0 (FLOOR 0 or 1), the second not: FLOOR 1 in one, or 2, which is BROKEN.
        due(4, x.fits());
        due(3, x.floors(0));
        due(6, x.floors(1));
        x.see(1, 2);
        due(1, x.fits());
        due(1, x.floors(0));
        due(2, x.floors(1));
        x.see(1, 3);
        due(0, x.fits());
        due(0, x.floors(0));
        due(0, x.lodger(0, 3));
        due(0, x.step(0, 2));
        due(1, new RankStairs().fits());
        x = told("wood 0 0;");
        due(1, x.fits());
        x.see(0, 0);
        due(1, x.fits());
        x.see(0, 1);
        due(0, x.fits());
        // WEAR of 99 at most: more by 1 alone.
        x = told("wood 0 98;lodger 1 0 0 0;hold 99;");
        x.see(0, 1);
        due(1, x.fits());
    }

    private static void fitsOfFour() {
        RankStairs x = told("wood 0 0;wood 0 0;lodger 2 0 0 0;lodger 2 0 0 0;lodger 2 0 0 0;lodger 2 0 0 0;");
        due(16, x.fits());
        // Each treads his FLOOR alone: two of four at 0.
        x.see(0, 4);
        due(6, x.fits());
        x.see(1, 4);
        due(6, x.fits());
        for (int p = 0; p < 4; p++) {
            due(3, x.floors(p));
        }
        x.forget(0);
        x.see(1, 8);
        due(1, x.fits());
        due(2, x.floors(3));
        // BROKEN by the first, it is out for those behind: then any FLOOR is as good.
        x = told("wood 0 0;wood 0 0;lodger 1 0 0 0;lodger 1 0 0 0;lodger 1 0 0 0;hold 2;");
        x.see(0, 2);
        due(8, x.fits());
        x.see(1, 0);
        due(4, x.fits());
        due(1, x.floors(0));
        due(3, x.floors(1));
    }

    private static void floors() {
        RankStairs x = told("wood 0 0;stone 0 0;wood 0 9;lodger 1 0 0 0;lodger 3 1 9 0;hold 9;");
        due(7, x.floors(0));
        due(7, x.floors(1));
        x.see(0, 5);
        due(3, x.floors(0));
        due(1, x.floors(1));
        due(BAD, x.floors(2));
        due(BAD, x.floors(-1));
    }

    private static void drift() {
        RankStairs x = told("wood 0 0;lodger 1 0 0 0;hold 5;");
        due(2, x.drift(1, 2, 0));
        due(0, x.drift(1, 2, 1));
        due(3, x.drift(1, 60, 0));
        due(1, x.drift(1, 3, 1));
        due(0, x.step(0, 2));
        due(BAD, x.drift(1, 0, 0));
        due(BAD, x.drift(1, 61, 0));
        due(BAD, x.drift(1, 1, 2));
        due(BAD, x.drift(1, 1, -1));
        due(STATE, new RankStairs().drift(1, 1, 0));
        due(BAD, new RankStairs().drift(1, 0, 0));
        // From 1: 1103527590, 2524885223, 662824084; bits 16 to 30: 16838, 5758, 10113; modulo 2: 0, 0, 1.
        x = told("wood 0 0;iron 0 99;lodger 1 0 0 0;lodger 1 0 0 1;hold 5;");
        due(1, x.drift(1, 1, 0));
        due(2, x.drift(1, 2, 0));
        due(2, x.drift(1, 3, 0));
        // From 0, modulo 2: 0, 0, 0, 1, 0; from -7: 0, 1, 1, 1, 1, 0.
        x.law(1, 99);
        due(3, x.drift(0, 4, 0));
        due(4, x.drift(0, 5, 0));
        due(1, x.drift(-7, 5, 0));
        due(2, x.drift(-7, 6, 0));
        // Modulo 4: 2, 2, 1.
        x = told("wood 0 0;iron 0 99;lodger 1 0 0 1;lodger 1 0 0 0;lodger 1 0 0 1;lodger 1 0 0 1;hold 2;");
        due(0, x.drift(1, 2, 0));
        due(1, x.drift(1, 3, 0));
        due(2, x.drift(1, 2, 1));
        due(3, x.drift(1, 3, 1));
    }

    private static void keep() {
        RankStairs x = told(HOUSE);
        due(0, x.keep(0));
        due(1, x.count(1));
        due(1, x.keep(0));
        due(0, x.keep(1));
        due(2, x.count(1));
        due(BAD, x.keep(2));
        due(BAD, x.keep(-1));
        x.wear(0, 50);
        x.keep(1);
        x.wear(0, 60);
        x.back(0);
        due(3, x.step(0, 2));
        x.back(1);
        due(50, x.step(0, 2));
    }

    private static void back() {
        RankStairs x = told(HOUSE);
        due(STATE, x.back(0));
        due(STATE, x.back(1));
        due(BAD, x.back(2));
        due(BAD, x.back(-1));
        x.day(2);
        x.keep(1);
        x.day(1);
        x.see(0, 1);
        x.feed(32);
        x.age(0, 0);
        x.mend(1);
        x.rank(0, 0);
        x.load(0, 0);
        x.move(0, 0);
        x.law(0, 0);
        x.law(1, 1);
        due(2, x.back(1));
        due(2, x.rule(4));
        due(12, x.step(0, 1));
        due(14, x.step(1, 2));
        due(1, x.lodger(0, 1));
        due(3, x.lodger(0, 2));
        due(6, x.lodger(0, 3));
        due(1, x.rule(2));
        due(30, x.rule(3));
        due(1, x.count(0));
        due(1, x.count(1));
        due(1, x.count(2));
        x.day(1);
        due(2, x.back(1));
    }

    private static void sheet() {
        RankStairs x = new RankStairs();
        due(1, x.sheet(0, 0, 40));
        due(40, x.count(3));
        due(1, x.sheet(0, 2, 0));
        due(0, x.count(3));
        due(1, x.sheet(0, 1, 3));
        due(BAD, x.sheet(0, 1, 41));
        due(-14, x.sheet(0, 1, -1));
        due(-14, x.sheet(3, 0, LOW));
        due(BAD, x.sheet(4, 0, -1));
        due(BAD, x.sheet(-1, 0, 1));
        due(BAD, x.sheet(0, 3, -1));
        due(BAD, x.sheet(0, -1, 1));
        due(3, x.count(3));
        due(0, x.torn());
        x = told("wood 0 0;lodger 1 0 0 0;");
        x.sheet(1, 0, 2);
        x.lay(1, 1, 7);
        due(-21, x.read(1, 0, 0, 2));
        x.sheet(1, 0, 2);
        due(2, x.read(1, 0, 0, 2));
    }

    private static void lay() {
        RankStairs x = told("wood 0 0;wood 0 0;lodger 1 0 0 0;lodger 1 0 0 1;");
        due(-11, x.lay(0, 0, 0));
        due(BAD, x.lay(4, 0, 0));
        due(BAD, x.lay(-1, 0, 0));
        for (int lane = 0; lane < 3; lane++) {
            x.sheet(lane, lane, 2);
            due(-12, x.lay(lane, 2, 0));
            due(-12, x.lay(lane, -1, 0));
            due(-12, x.lay(lane, HIGH, 0));
            due(1, x.lay(lane, 0, 256));
            due(lane == 0 ? 1 : -20, x.read(lane, lane, 0, 1));
            due(1, x.lay(lane, 0, 65537));
            due(lane < 2 ? 1 : -20, x.read(lane, lane, 0, 1));
            due(1, x.lay(lane, 0, 255));
            due(-20, x.read(lane, lane, 0, 1));
            due(1, x.lay(lane, 0, 1));
            due(1, x.read(lane, lane, 0, 1));
            x.mend(0);
            x.mend(1);
        }
    }

    private static void read() {
        RankStairs x = told("wood 0 0;wood 0 0;lodger 1 0 0 0;lodger 1 0 0 1;hold 5;");
        x.sheet(1, 1, 4);
        x.lay(1, 1, 1);
        due(2, x.read(1, 1, 0, 2));
        due(4, x.step(0, 2));
        due(2, x.step(1, 2));
        due(0, x.rule(4));
        // Once more and 0 is BROKEN: the second has no CLIMB by then, and none did.
        due(-21, x.read(1, 1, 0, 2));
        due(4, x.step(0, 2));
        x.law(1, 99);
        // From 3 on there is one CELL more: he did, the machine refuses the next.
        due(1, x.read(1, 1, 3, 2));
        due(6, x.step(0, 2));
        due(2, x.torn());
        x.lay(1, 3, 2);
        due(-20, x.read(1, 1, 3, 2));
        due(-22, x.read(1, 1, 1, 20));
        due(0, x.read(1, 1, 4, 1));
        due(0, x.read(1, 1, -1, 1));
        due(0, x.read(1, 1, HIGH, 20));
        due(0, x.read(1, 1, 0, 0));
        due(0, x.torn());
        due(0, x.read(1, 0, 0, 1));
        due(3, x.torn());
        due(0, x.read(0, 0, 0, 1));
        due(1, x.torn());
        due(BAD, x.read(4, 1, 0, 1));
        due(BAD, x.read(-1, 1, 0, 1));
        due(BAD, x.read(1, 3, 0, 1));
        due(BAD, x.read(1, -1, 0, 1));
        due(BAD, x.read(1, 1, 0, 21));
        due(BAD, x.read(1, 1, 0, -1));
        due(6, x.step(0, 2));
    }

    private static void torn() {
        RankStairs x = told("wood 0 0;lodger 1 0 0 0;");
        due(0, x.torn());
        x.sheet(2, 2, 1);
        x.read(2, 2, 0, 1);
        due(0, x.torn());
        x.read(2, 2, 0, 2);
        due(2, x.torn());
        // Those that are refused leave it.
        due(BAD, x.read(2, 2, 0, 21));
        due(2, x.torn());
        x.lay(2, 0, 5);
        due(-20, x.read(2, 2, 0, 1));
        due(2, x.torn());
        due(-12, x.lay(2, 1, 0));
        due(-14, x.sheet(2, 2, -1));
        due(2, x.torn());
        x.read(2, 1, 9, 1);
        due(3, x.torn());
        x.read(0, 1, 9, 1);
        due(1, x.torn());
        x.lay(2, 0, 0);
        x.read(2, 2, 0, 1);
        due(0, x.torn());
        noFaultOfNone(x);
    }

    /** A read of 0 LODGERS meets none at whom the machine could refuse, and clears what was found ahead of it. */
    private static void noFaultOfNone(RankStairs x) {
        int[][] reads = {{0, 0, 0}, {0, 1, -1}, {2, 2, 0}, {2, 2, 1}, {2, 2, -1}, {2, 2, HIGH}, {2, 0, 0}, {2, 1, 9}};
        for (int[] r : reads) {
            x.read(2, 1, 0, 1);
            due(3, x.torn());
            due(0, x.read(r[0], r[1], r[2], 0));
            due(0, x.torn());
        }
        due(0, x.read(2, 2, 1, 1));
        due(2, x.torn());
        due(BAD, x.read(2, 3, 0, 0));
        due(BAD, x.read(4, 2, 0, 0));
        due(2, x.torn());
    }

    private static void count() {
        RankStairs x = told(HOUSE);
        x.see(0, 0);
        x.see(0, 0);
        x.keep(1);
        x.feed(1);
        x.wear(5, 30);
        x.wear(6, 99);
        due(2, x.count(0));
        due(1, x.count(1));
        due(1, x.count(2));
        due(NONE, x.count(3));
        due(2, x.count(4));
        due(3 + 10 + 2 + 0 + 8 + 30 + 99, x.count(5));
        due(1, x.count(6));
        due(BAD, x.count(7));
        due(BAD, x.count(-1));
    }

    private static void run(int number) {
        promise = number;
        switch (number) {
            case 1: newObject(); break;
            case 2: feed(); break;
            case 3: end(); break;
            case 4: text(); textToTheLastByte(); break;
            case 5: fault(); break;
            case 6: rule(); break;
            case 7: step(); break;
            case 8: lodger(); break;
            case 9: age(); break;
            case 10: wear(); break;
            case 11: mend(); break;
            case 12: rank(); break;
            case 13: load(); break;
            case 14: move(); break;
            case 15: law(); break;
            case 16: year(); break;
            case 17: climb(); break;
            case 18: ways(); break;
            case 19: smooth(); break;
            case 20: homes(); break;
            case 21: must(); break;
            case 22: day(); break;
            case 23: ahead(); break;
            case 24: breaks(); break;
            case 25: stuck(); break;
            case 26: gap(); break;
            case 27: legs(); break;
            case 28: hold(); break;
            case 29: best(); break;
            case 30: lodge(); break;
            case 31: odds(); oddsOverAGap(); break;
            case 32: mean(); break;
            case 33: see(); break;
            case 34: forget(); break;
            case 35: fits(); fitsOfFour(); break;
            case 36: floors(); break;
            case 37: drift(); break;
            case 38: keep(); break;
            case 39: back(); break;
            case 40: sheet(); break;
            case 41: lay(); break;
            case 42: read(); break;
            case 43: torn(); break;
            default: count(); break;
        }
    }

    public static void main(String[] args) {
        for (int number = 1; number <= 44; number++) {
            run(number);
        }
        System.out.println(checks + " answers of 44 promises, " + wrong + " not as due");
        if (wrong != 0) {
            System.exit(1);
        }
    }
}
