/** THE TAPE and the text that it tells: promises 1 to 5, and part 1 of the terms. */
final class TextBoundaries {
    private static final int BAD = Bench.BAD, STATE = Bench.STATE, FULL = Bench.FULL, NONE = Bench.NONE;
    private static final int LOW = Bench.LOW, HIGH = Bench.HIGH;
    private static final String[] KINDS = {"wood", "stone", "iron", "landing"};
    /** As short as can be: 80 bytes, and 56. */
    private static final String TEN_STEPS = "iron0 0;".repeat(10);
    private static final String FOUR_LODGERS = "lodger1 0 0 0;".repeat(4);

    private TextBoundaries() {
    }

    static void run() {
        newObject();
        firstLaws();
        bytes();
        fullTape();
        cutTape();
        places();
        linesOfText();
        linesInAnyOrder();
        whatLinesTell();
        lodgersTold();
        toldStays();
        latestFault();
        signs();
        longestTokens();
        figures();
        blanks();
        numbersOfLines();
        noToken();
        noPlaceForToken();
        bounds();
        toldTwice();
        tooMany();
        lostFloors();
        firstMet();
        takenText();
        nothingIsLeft();
    }

    private static void newObject() {
        Bench.promise(1, "No STEPS, nobody; SHEETS have nothing.");
        RankStairs x = new RankStairs();
        Bench.due(0, x.rule(0));
        Bench.due(0, x.rule(1));
        Bench.due(BAD, x.step(0, 0));
        Bench.due(BAD, x.lodger(0, 0));
        Bench.due(NONE, x.count(3));
        for (int k = 0; k < 4; k++) {
            Bench.due(-11, x.lay(k, 0, 0));
            Bench.due(0, x.read(k, 0, 0, 1));
            Bench.due(1, x.torn());
            Bench.due(1, x.sheet(k, 0, 1));
            Bench.due(1, x.lay(k, 0, 0));
        }
        x = Bench.told("iron 0 0;lodger 1 0 0 0;");
        Bench.due(1, x.rule(0));
        Bench.due(1, x.rule(1));
        Bench.due(2, x.step(0, 0));
        Bench.due(BAD, x.step(1, 0));
        Bench.due(1, x.lodger(0, 0));
        Bench.due(BAD, x.lodger(1, 0));
    }

    private static void firstLaws() {
        Bench.terms("GAP (0 to 3; 1 at first). HOLD (1 to 99; 30 at first). DAY (0 at first).");
        RankStairs x = new RankStairs();
        for (int t = 0; t < 2; t++) {
            Bench.due(1, x.rule(2));
            Bench.due(30, x.rule(3));
            Bench.due(0, x.rule(4));
            x.law(0, 3);
            x.law(1, 99);
            x.day(5);
            // A text that tells none of them has them as they are at first.
            Bench.due(1, Bench.tell(x, "iron 0 0;"));
        }
        x = Bench.told("gap 0;hold 1;");
        Bench.due(0, x.rule(2));
        Bench.due(1, x.rule(3));
        x = Bench.told("gap 3;hold 99;");
        Bench.due(3, x.rule(2));
        Bench.due(99, x.rule(3));
    }

    private static void bytes() {
        Bench.promise(2, "A byte (0 to 127) comes behind THE TAPE: how many it has. BAD;");
        RankStairs x = new RankStairs();
        Bench.due(BAD, x.feed(-1));
        Bench.due(BAD, x.feed(LOW));
        Bench.due(1, x.feed(0));
        Bench.due(BAD, x.feed(128));
        Bench.due(BAD, x.feed(256 + ' '));
        Bench.due(BAD, x.feed(HIGH));
        Bench.due(2, x.feed(127));
        Bench.due(2, x.count(2));
    }

    private static void fullTape() {
        Bench.promise(2, "FULL: more than 160.");
        RankStairs x = new RankStairs();
        for (int n = 1; n <= 160; n++) {
            Bench.due(n, x.feed(' '));
        }
        Bench.due(FULL, x.feed('?'));
        Bench.due(FULL, x.feed(' '));
        Bench.due(160, x.count(2));
        Bench.due(160, x.end(159));
        Bench.due(160, x.feed(' '));
        Bench.due(FULL, x.feed('?'));
        // What was refused is not read.
        Bench.due(0, x.text());
        Bench.due(1, x.feed(' '));
    }

    private static void cutTape() {
        Bench.promise(3, "THE TAPE keeps its first n bytes: how many it had. BAD.");
        RankStairs x = new RankStairs();
        Bench.due(0, x.end(0));
        Bench.due(BAD, x.end(1));
        Bench.due(BAD, x.end(-1));
        Bench.feed(x, "gap 1;");
        Bench.due(BAD, x.end(7));
        Bench.due(BAD, x.end(LOW));
        Bench.due(BAD, x.end(HIGH));
        Bench.due(6, x.end(6));
        Bench.due(6, x.count(2));
        Bench.due(6, x.end(5));
        Bench.due(5, x.end(4));
        Bench.due(4, x.count(2));
        Bench.due(5, x.feed('2'));
        Bench.due(6, x.feed(';'));
        Bench.due(1, x.text());
        Bench.due(2, x.rule(2));
        Bench.feed(x, "?".repeat(160));
        Bench.due(BAD, x.end(161));
        Bench.due(160, x.end(160));
        Bench.due(160, x.end(0));
        Bench.due(0, x.count(2));
        Bench.due(0, x.text());
    }

    private static void places() {
        Bench.terms("THE TAPE has 160 bytes, places from 0.");
        String blanks = " ".repeat(160);
        Bench.faulty(1, 0, "?");
        Bench.faulty(1, 0, "?" + blanks.substring(1));
        Bench.faulty(1, 1, " ?");
        Bench.faulty(1, 158, blanks.substring(2) + "? ");
        Bench.faulty(1, 159, blanks.substring(1) + "?");
        Bench.faulty(2, 160, blanks.substring(3) + "gap");
        Bench.faulty(2, 159, blanks.substring(4) + "gap");
        Bench.taken(1, blanks.substring(6) + "gap 1;");
        Bench.taken(1, "gap 1;" + blanks.substring(6));
        // The sign that closes the line finds no room any more.
        Bench.faulty(2, 160, blanks.substring(5) + "gap 1;");
    }

    private static void linesOfText() {
        Bench.promise(4, "THE TAPE (empty then) tells all: how many lines;");
        Bench.taken(0, "");
        Bench.taken(0, " ");
        Bench.taken(1, "gap 1;");
        RankStairs x = new RankStairs();
        Bench.due(16, Bench.tell(x, TEN_STEPS + FOUR_LODGERS + "gap1;hold1;"));
        Bench.due(0, x.count(2));
        Bench.due(10, x.rule(0));
        Bench.due(4, x.rule(1));
        // An empty THE TAPE tells that there is nothing.
        Bench.due(0, x.text());
        Bench.due(0, x.rule(0));
        Bench.due(0, x.rule(1));
    }

    private static void linesInAnyOrder() {
        Bench.terms("text: { line }");
        Bench.taken(0, "");
        String[] lines = {"wood 1 2;", "lodger 4 3 9 0;", "gap 0;", "hold 7;"};
        for (int first = 0; first < 4; first++) {
            StringBuilder text = new StringBuilder();
            for (int k = 0; k < 4; k++) {
                text.append(lines[(first + k) % 4]);
            }
            RankStairs x = Bench.told(text.toString());
            int[] rules = {1, 1, 0, 7, 0};
            for (int what = 0; what <= 4; what++) {
                Bench.due(rules[what], x.rule(what));
            }
        }
    }

    private static void whatLinesTell() {
        Bench.terms("wood, stone, iron, landing: a STEP more: YEARS, WEAR. lodger: a LODGER more: LEGS, RANK, LOAD, "
            + "FLOOR (0 to 9). gap: GAP. hold: HOLD.");
        StringBuilder text = new StringBuilder("gap 3;hold 98;");
        for (int i = 0; i < 10; i++) {
            text.append(KINDS[i % 4]).append(i).append(' ').append(90 + i).append(';');
        }
        RankStairs x = Bench.told(text + "lodger4 3 8 9;lodger1 2 9 0;");
        Bench.due(3, x.rule(2));
        Bench.due(98, x.rule(3));
        for (int i = 0; i < 10; i++) {
            Bench.due(i % 4, x.step(i, 0));
            Bench.due(i, x.step(i, 1));
            Bench.due(90 + i, x.step(i, 2));
        }
        int[][] lodgers = {{4, 3, 8, 9}, {1, 2, 9, 0}};
        for (int p = 0; p < 2; p++) {
            for (int what = 0; what <= 3; what++) {
                Bench.due(lodgers[p][what], x.lodger(p, what));
            }
        }
        Bench.taken(11, TEN_STEPS + "lodger 1 0 0 9;");
        Bench.faulty(3, 93, TEN_STEPS + "lodger 1 0 0 10;");
    }

    private static void lodgersTold() {
        Bench.terms("each with LEGS (1 to 4), a RANK (0 to 3), a LOAD (0 to 9), a FLOOR: a STEP.");
        RankStairs x = Bench.told("iron 0 0;iron 0 0;lodger 1 0 0 0;lodger 4 3 9 1;");
        int[][] ends = {{1, 0, 0, 0}, {4, 3, 9, 1}};
        for (int p = 0; p < 2; p++) {
            for (int what = 0; what <= 3; what++) {
                Bench.due(ends[p][what], x.lodger(p, what));
            }
        }
        Bench.faulty(3, 25, "iron 0 0;iron 0 0;lodger 0 0 0 0;");
        Bench.faulty(3, 25, "iron 0 0;iron 0 0;lodger 5 3 9 1;");
        Bench.faulty(3, 27, "iron 0 0;iron 0 0;lodger 4 4 9 1;");
        Bench.faulty(3, 29, "iron 0 0;iron 0 0;lodger 4 3 10 1;");
        Bench.faulty(6, 33, "iron 0 0;iron 0 0;lodger 4 3 9 2;");
    }

    private static void toldStays() {
        Bench.promise(4, "-10 less the place of its FAULT: that which was told stays.");
        RankStairs x = Bench.told("wood 7 3;lodger 2 3 4 0;gap 2;hold 9;");
        String[] refused = {"?", " ?", "stone 1 1;lodger 1 1 1 0;gap 0;hold 1;?",
            "stone 1 1;lodger 1 1 1 1;gap 0;hold 1;"};
        int[] answers = {-10, -11, -48, -48};
        for (int k = 0; k < refused.length; k++) {
            Bench.due(answers[k], Bench.tell(x, refused[k]));
            Bench.due(0, x.count(2));
            int[] rules = {1, 1, 2, 9, 0};
            for (int what = 0; what <= 4; what++) {
                Bench.due(rules[what], x.rule(what));
            }
            Bench.due(0, x.step(0, 0));
            Bench.due(7, x.step(0, 1));
            Bench.due(3, x.step(0, 2));
            int[] lodger = {2, 3, 4, 0};
            for (int what = 0; what <= 3; what++) {
                Bench.due(lodger[what], x.lodger(0, what));
            }
        }
        Bench.due(4, Bench.tell(x, "stone 1 1;lodger 1 1 1 0;gap 0;hold 1;"));
        Bench.due(1, x.step(0, 0));
    }

    private static void latestFault() {
        Bench.promise(5, "The FAULT of the latest text(); 0.");
        RankStairs x = new RankStairs();
        Bench.due(0, x.fault());
        String[] faulty = {"?", "z", "gap 4;", "gap 1;gap", "lodger1 0 0 0;".repeat(5), "lodger 1 0 0 0;"};
        for (int k = 0; k < faulty.length; k++) {
            Bench.tell(x, faulty[k]);
            Bench.due(k + 1, x.fault());
            Bench.due(k + 1, x.fault());
        }
        Bench.feed(x, "?");
        Bench.due(6, x.fault());
        x.end(0);
        Bench.due(6, x.fault());
        Bench.due(0, x.text());
        Bench.due(0, x.fault());
    }

    private static void signs() {
        Bench.terms("blanks (32) between: NAMES (a .. z), NUMBERS (1 or 2 figures), one ; .");
        for (int c = 0; c <= 127; c++) {
            String sign = String.valueOf((char) c);
            boolean begins = (c >= 97 && c <= 122) || (c >= 48 && c <= 57) || c == 59;
            if (c == 32) {
                Bench.taken(0, sign);
            } else {
                Bench.faulty(begins ? 2 : 1, 0, sign);
            }
        }
        // The figures at both ends are figures.
        RankStairs x = Bench.told("wood 09 90;");
        Bench.due(9, x.step(0, 1));
        Bench.due(90, x.step(0, 2));
    }

    private static void longestTokens() {
        Bench.terms("TOKENS, each as long as may be");
        Bench.faulty(2, 0, "woodstone 1 1;");
        Bench.faulty(2, 0, "woo 1 1;");
        Bench.faulty(2, 0, "woodd 1 1;");
        Bench.faulty(2, 0, "wo od 1 1;");
        Bench.faulty(2, 0, "xwood 1 1;");
        Bench.faulty(2, 0, "food 1 1;");
        Bench.faulty(2, 0, "wool 1 1;");
        Bench.faulty(1, 5, "wood 123;");
        Bench.faulty(2, 6, "gap 1 2;");
        RankStairs x = Bench.told("wood12 34;");
        Bench.due(12, x.step(0, 1));
        Bench.due(34, x.step(0, 2));
        x = Bench.told("wood1 2;");
        Bench.due(1, x.step(0, 1));
        Bench.due(2, x.step(0, 2));
    }

    private static void figures() {
        Bench.terms("NUMBERS (1 or 2 figures)");
        RankStairs x = Bench.told("gap 3;");
        Bench.due(3, x.rule(2));
        x = Bench.told("gap 02;");
        Bench.due(2, x.rule(2));
        Bench.faulty(1, 4, "gap 002;");
        Bench.faulty(1, 4, "gap 0002;");
        Bench.faulty(2, 4, "gap ;");
    }

    private static void blanks() {
        Bench.terms("blanks (32) between");
        Bench.taken(2, "gap1;hold1;");
        Bench.taken(2, "   gap   1   ;   hold   1   ;   ");
        Bench.faulty(1, 3, "gap" + (char) 31 + "1;");
        Bench.faulty(1, 3, "gap" + (char) 33 + "1;");
        Bench.faulty(1, 3, "gap\t1;");
        Bench.faulty(1, 6, "gap 1;\n");
        Bench.faulty(2, 8, "gap 1 ; ;");
    }

    private static void numbersOfLines() {
        Bench.terms("line: wood N N ; | stone N N ; | iron N N ; | landing N N ; | lodger N N N N ; | gap N ; | "
            + "hold N ;");
        for (int kind = 0; kind < 4; kind++) {
            int name = KINDS[kind].length();
            Bench.faulty(2, name + 3, KINDS[kind] + " 1 ;");
            Bench.faulty(2, name + 5, KINDS[kind] + " 1 1 1;");
            RankStairs x = Bench.told(KINDS[kind] + " 1 2;");
            Bench.due(kind, x.step(0, 0));
            Bench.due(1, x.step(0, 1));
            Bench.due(2, x.step(0, 2));
        }
        Bench.faulty(2, 21, "iron 0 0;lodger 1 1 1;");
        Bench.faulty(2, 24, "iron 0 0;lodger 1 1 1 0 0;");
        Bench.taken(2, "iron 0 0;lodger 1 1 1 0;");
        for (String law : new String[] {"gap", "hold"}) {
            int name = law.length();
            Bench.faulty(2, name, law + ";");
            Bench.faulty(2, name + 3, law + " 1 1;");
            Bench.taken(1, law + " 1;");
        }
    }

    private static void noToken() {
        Bench.terms("1 no TOKEN, a NUMBER that is too long (its first byte).");
        Bench.faulty(1, 9, "wood 1 1;?");
        Bench.faulty(1, 4, "wood?1 1;");
        Bench.faulty(1, 6, "wood 1?1;");
        Bench.faulty(1, 8, "wood 1 1?");
        Bench.faulty(1, 0, "Wood 1 1;");
        Bench.faulty(1, 6, "gap 1;Hold 1;");
        Bench.faulty(1, 5, "wood 100 1;");
        Bench.faulty(1, 7, "wood 1 100;");
        Bench.faulty(1, 0, "000");
        Bench.faulty(2, 0, "00");
        Bench.taken(1, "wood 10 99;");
    }

    private static void noPlaceForToken() {
        Bench.terms("2 a TOKEN that can not stand there (a NAME that begins no line; or the end: the length).");
        Bench.faulty(2, 0, "years 1 1;");
        Bench.faulty(2, 9, "wood 1 1;years 1 1;");
        Bench.faulty(2, 0, "1 wood 1;");
        Bench.faulty(2, 0, ";");
        Bench.faulty(2, 5, "wood wood 1 1;");
        Bench.faulty(2, 5, "wood ;");
        Bench.faulty(2, 7, "wood 1 stone 1 1;");
        Bench.faulty(2, 9, "wood 1 1 stone 1 1;");
        Bench.faulty(2, 9, "wood 1 1;;");
        // The end, wherever it comes but behind a line.
        String line = "lodger 1 1 1 0 ;";
        for (int n = 6; n < line.length(); n++) {
            Bench.faulty(2, 9 + n, "iron 0 0;" + line.substring(0, n));
        }
        Bench.faulty(2, 14, "iron 0 0;gap  ");
        Bench.taken(2, "iron 0 0;" + line);
    }

    private static void bounded(String ahead, String behind, int least, int most) {
        for (int v = 0; v <= 99; v++) {
            String text = ahead + v + behind;
            if (v >= least && v <= most) {
                RankStairs x = new RankStairs();
                Bench.due(0, Math.min(Bench.tell(x, text), 0));
                Bench.due(0, x.fault());
            } else {
                Bench.faulty(3, ahead.length(), text);
            }
        }
    }

    private static void bounds() {
        Bench.terms("3 a NUMBER out of its bounds.");
        for (String kind : KINDS) {
            bounded(kind + " ", " 0;", 0, 60);
            bounded(kind + " 0 ", ";", 0, 99);
        }
        bounded(TEN_STEPS + "lodger ", " 0 0 0;", 1, 4);
        bounded(TEN_STEPS + "lodger 1 ", " 0 0;", 0, 3);
        bounded(TEN_STEPS + "lodger 1 0 ", " 0;", 0, 9);
        bounded(TEN_STEPS + "lodger 1 0 0 ", ";", 0, 9);
        bounded("gap ", ";", 0, 3);
        bounded("hold ", ";", 1, 99);
    }

    private static void toldTwice() {
        Bench.terms("4 gap, hold for the second time (its NAME).");
        Bench.taken(2, "gap 1;hold 1;");
        Bench.taken(2, "hold 1;gap 1;");
        Bench.faulty(4, 6, "gap 1;gap 1;");
        Bench.faulty(4, 7, "hold 1;hold 1;");
        Bench.faulty(4, 13, "hold 1;gap 1;hold 1;");
        Bench.faulty(4, 13, "gap 1;hold 1;gap 1;");
        Bench.faulty(4, 6, "gap 1;gap");
        // The second time is by each text: what an earlier one told does not count.
        RankStairs x = Bench.told("gap 1;hold 1;");
        Bench.due(2, Bench.tell(x, "gap 2;hold 2;"));
        Bench.due(-16, Bench.tell(x, "gap 3;gap 3;"));
        Bench.due(1, Bench.tell(x, "gap 3;"));
    }

    private static void tooMany() {
        Bench.terms("STEPS 0 on (10 at most), from below");
        Bench.taken(10, TEN_STEPS);
        Bench.terms("LODGERS (4 at most), by order");
        Bench.taken(5, "iron0 0;" + FOUR_LODGERS);
        Bench.terms("5 the 11th STEP, the 5th lodger (its NAME).");
        for (String kind : KINDS) {
            Bench.taken(10, TEN_STEPS.substring(8) + kind + "0 0;");
            Bench.faulty(5, 80, TEN_STEPS + kind + "0 0;");
            Bench.faulty(5, 80, TEN_STEPS + kind);
        }
        Bench.faulty(5, 8 + 56, "iron0 0;" + FOUR_LODGERS + "lodger1 0 0 0;");
        Bench.faulty(5, 8 + 56, "iron0 0;" + FOUR_LODGERS + "lodger");
        Bench.taken(14, TEN_STEPS + FOUR_LODGERS);
        Bench.faulty(5, 136, TEN_STEPS + FOUR_LODGERS + "iron");
        Bench.faulty(5, 136, TEN_STEPS + FOUR_LODGERS + "lodger");
        // Ten and four are by each text.
        RankStairs x = Bench.told(TEN_STEPS + FOUR_LODGERS);
        Bench.due(14, Bench.tell(x, TEN_STEPS + FOUR_LODGERS));
    }

    private static void lostFloors() {
        Bench.terms("Behind all (the length): 6 a FLOOR that there is not.");
        Bench.taken(2, "iron 0 0;lodger 1 0 0 0;");
        Bench.faulty(6, 24, "iron 0 0;lodger 1 0 0 1;");
        Bench.faulty(6, 26, "iron 0 0;lodger 1 0 0 1;  ");
        Bench.faulty(6, 15, "lodger 1 0 0 0;");
        Bench.faulty(6, 39, "iron 0 0;lodger 1 0 0 1;lodger 1 0 0 0;");
        Bench.faulty(6, 39, "iron 0 0;lodger 1 0 0 0;lodger 1 0 0 1;");
        Bench.taken(11, TEN_STEPS + "lodger 1 0 0 9;");
        Bench.faulty(6, 72 + 15, TEN_STEPS.substring(8) + "lodger 1 0 0 9;");
        // A STEP may come behind the LODGER whose FLOOR it is.
        Bench.taken(3, "lodger 1 0 0 1;iron 0 0;iron 0 0;");
        Bench.faulty(6, 24, "lodger 1 0 0 1;iron 0 0;");
    }

    private static void firstMet() {
        Bench.terms("FAULTS, the first met as it is read (a TOKEN is read when the one before has been taken)");
        Bench.faulty(3, 5, "wood 61 ?");
        Bench.faulty(3, 5, "wood 61 100;");
        Bench.faulty(3, 5, "wood 61 ;");
        Bench.faulty(1, 5, "wood 100 61;");
        Bench.faulty(2, 0, "x ?");
        Bench.faulty(2, 9, "wood 1 1 1 ?");
        Bench.faulty(4, 6, "gap 1;gap 4;");
        Bench.faulty(4, 6, "gap 1;gap ?");
        Bench.faulty(3, 4, "gap 4;gap 1;");
        Bench.faulty(5, 80, TEN_STEPS + "wood 61 1;");
        Bench.faulty(5, 80, TEN_STEPS + "wood?");
        Bench.faulty(5, 56, FOUR_LODGERS + "lodger 9");
        // A FLOOR that there is not is met behind all others.
        Bench.faulty(1, 15, "lodger 1 0 0 5;?");
        Bench.faulty(2, 15, "lodger 1 0 0 5;x");
        Bench.faulty(3, 19, "lodger 1 0 0 5;gap 4;");
        Bench.faulty(2, 14, "lodger 1 0 0 5");
    }

    private static void takenText() {
        Bench.terms("A text that is taken tells all, in place of what there was; nothing is SEEN; IMAGES are gone.");
        RankStairs x = Bench.told(TEN_STEPS + "lodger 2 0 0 9;gap 0;hold 99;");
        x.see(9, 0);
        x.keep(0);
        x.keep(1);
        x.day(7);
        Bench.due(-10, Bench.tell(x, "?"));
        Bench.due(1, x.count(0));
        Bench.due(2, x.count(1));
        Bench.due(7, x.rule(4));
        Bench.due(0, x.back(0));
        x.day(7);
        Bench.due(1, Bench.tell(x, "wood 1 2;"));
        Bench.due(0, x.count(0));
        Bench.due(0, x.count(1));
        Bench.due(STATE, x.back(0));
        Bench.due(STATE, x.back(1));
        int[] rules = {1, 0, 1, 30, 0};
        for (int what = 0; what <= 4; what++) {
            Bench.due(rules[what], x.rule(what));
        }
        Bench.due(BAD, x.step(1, 0));
        Bench.due(BAD, x.lodger(0, 0));
        // Even a text that says nothing is taken.
        x.see(0, 0);
        x.keep(0);
        Bench.due(0, x.text());
        Bench.due(0, x.count(0));
        Bench.due(0, x.count(1));
        Bench.due(0, x.rule(0));
    }

    /** A small house behind a large one that was lived in is as if it had been the first. */
    private static void nothingIsLeft() {
        Bench.terms("tells all, in place of what there was");
        String[] small = {"", "wood 0 9;lodger 1 0 0 0;", "landing 20 0;iron 0 0;lodger 2 1 5 1;gap 0;"};
        for (String text : small) {
            RankStairs later = Bench.told("wood9 31;".repeat(10) + "lodger4 0 0 9;".repeat(4) + "gap3;hold99;");
            later.day(60);
            later.see(9, 40);
            later.keep(1);
            for (Twins.Call ask : Twins.ASKS) {
                ask.on(later);
            }
            Bench.tell(later, text);
            Twins.same(later, Bench.told(text));
        }
    }
}
