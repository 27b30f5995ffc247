/** Sentences of promises 9 to 13: MUTANTS one by one, which SUBSUMES which, DAYS. */
final class MutantsEdges extends Edges {
    /** MUTANT 0 is KILLED by TESTS 0 and 2, 1 by 0, 2 by 1, 3 by 1 and 2. */
    private static final String FOUR = "m;gxy,P311,P210,P168";

    /** MUTANT 11 differs at 9 9 alone, the last of all INPUTS. */
    private static final String LAST_DIFFERS = "m;lyx;m00;s10;s02;g13,P198";

    private static final String NONE_KILLED = "m;gxy,P300,S200,D100";

    MutantsEdges(Sentences document) {
        super(document);
    }

    @Override
    void ask() {
        ofMutant();
        ofMutantSets();
        ofMutantRefusals();
        state();
        subsumes();
        hardest();
        dayAnswers();
        dayFirstWrong();
        dayRefusals();
        dayFaults();
        dayState();
        dayPairs();
        close();
    }

    private void ofMutant() {
        promise(9);
        sentence("Of a MUTANT: 0 its STEP, 1 the other WAY,");
        fromText("m;axy;sxy;mxy;gxy;lxy,P111");
        int[] ways = {1, 2, 3, 4, 0, 2, 3, 4, 0, 1, 3, 4, 0, 1, 2, 4, 0, 1, 2, 3};
        for (int m = 0; m < 20; m++) {
            due(m / 4, "ofMutant", m, 0);
            due(ways[m], "ofMutant", m, 1);
        }
        due(0, "way", 0, 4);
        due(0, "ofMutant", 0, 1);
        due(3, "ofMutant", 3, 1);

        sentence("3 whether it is EQUAL (1, 0),");
        fromText(LAST_DIFFERS);
        due(0, "ofMutant", 11, 3);
        // A figure less itself is 0, in whichever WAY it came to be; l of x and x is g of x and x.
        fromText("m;gxx;s00,P111");
        for (int m = 0; m < 4; m++) {
            due(1, "ofMutant", m, 3);
            due(0, "ofMutant", m + 4, 3);
        }
        fromText("m;gxx,P111");
        due(0, "ofMutant", 2, 3);
        due(1, "ofMutant", 3, 3);
        // None is KILLED, and yet none is EQUAL.
        fromText(NONE_KILLED);
        for (int m = 0; m < 4; m++) {
            due(0, "ofMutant", m, 3);
        }

        sentence("4 for how many of all INPUTS its OUTPUT is another one,");
        fromText(LAST_DIFFERS);
        due(1, "ofMutant", 11, 4);
        fromText("m;gxx;s00,P111");
        due(0, "ofMutant", 0, 4);
        // At 0 0 every WAY makes 0, so 99 is the most there can be.
        fromText("m;axy,P100");
        int[] differences = {80, 96, 81, 99};
        for (int m = 0; m < 4; m++) {
            due(differences[m], "ofMutant", m, 4);
        }
    }

    private void ofMutantSets() {
        promise(9);
        sentence("2 TESTS that KILL it, as a set,");
        fromText(FOUR);
        int[] killers = {5, 1, 2, 6};
        for (int m = 0; m < 4; m++) {
            due(killers[m], "ofMutant", m, 2);
        }
        fromText("m;gxy,P100,P100,P100,P100,P100,P100,P111");
        due(64, "ofMutant", 1, 2);
        due(0, "ofMutant", 2, 2);
        fromText("m;gxy" + ",P111".repeat(7));
        due(127, "ofMutant", 0, 2);
        due(0, "ofMutant", 3, 2);

        sentence("5 whether it is LEAST (1, 0),");
        fromText(FOUR);
        int[] least = {0, 1, 1, 0};
        for (int m = 0; m < 4; m++) {
            due(least[m], "ofMutant", m, 5);
        }
        fromText(NONE_KILLED);
        for (int m = 0; m < 4; m++) {
            due(0, "ofMutant", m, 5);
        }

        sentence("6 how many MUTANTS it SUBSUMES (itself, too).");
        fromText(FOUR);
        int[] subsumed = {1, 2, 2, 1};
        for (int m = 0; m < 4; m++) {
            due(subsumed[m], "ofMutant", m, 6);
        }
        fromText(NONE_KILLED);
        due(0, "ofMutant", 0, 6);
        fromText("m;syx;mxy;s1x;a20;m3y,P163");
        for (int m = 0; m < 20; m++) {
            due(20, "ofMutant", m, 6);
        }
    }

    private void ofMutantRefusals() {
        promise(9);
        sentence("UNKNOWN;");
        from(Edges::most);
        within(0, 19, UNKNOWN, "ofMutant", 0, 0, 2);
        from(Edges::small);
        within(0, 7, UNKNOWN, "ofMutant", 0, 0, 0);
        refuses(UNKNOWN, "ofMutant", 8, 7);
        from(Edges::none);
        refuses(UNKNOWN, "ofMutant", 0, 0);

        sentence("OUTSIDE.");
        from(Edges::small);
        within(0, 6, OUTSIDE, "ofMutant", 1, 0, 0);
        within(0, 6, OUTSIDE, "ofMutant", 1, 7, 0);
    }

    private void state() {
        promise(10);
        sentence("What a TEST does to a MUTANT: 0 nothing, 1 it INFECTS it alone, 2 it KILLS it.");
        // STEP 0 at 1 2: g makes 2, a 3, s 9, m 2, l 1; STEP 1 makes the lesser one of it and 2.
        fromText("m;gxy;l0y,P112,P100");
        int[] does = {1, 1, 0, 2};
        for (int m = 0; m < 4; m++) {
            due(does[m], "state", m, 0);
            due(0, "state", m, 1);
        }
        // What the last STEP makes is the OUTPUT: it is never INFECTED alone.
        for (int m = 4; m < 8; m++) {
            due(m == 7 ? 0 : 2, "state", m, 0);
        }

        sentence("UNKNOWN: MUTANT, TEST.");
        from(Edges::most);
        within(0, 19, UNKNOWN, "state", 0, 0, 0);
        within(0, 6, UNKNOWN, "state", 1, 0, 0);
        from(Edges::small);
        within(0, 7, UNKNOWN, "state", 0, 0, 2);
        within(0, 2, UNKNOWN, "state", 1, 7, 0);
        refuses(UNKNOWN, "state", 8, 3);
        from(Edges::none);
        refuses(UNKNOWN, "state", 0, 0);
    }

    private void subsumes() {
        promise(11);
        sentence("Whether a MUTANT SUBSUMES another one (or itself): 1, 0.");
        fromText(FOUR);
        int[][] wanted = {{1, 0, 0, 0}, {1, 1, 0, 0}, {0, 0, 1, 1}, {0, 0, 0, 1}};
        for (int m = 0; m < 4; m++) {
            for (int other = 0; other < 4; other++) {
                due(wanted[m][other], "subsumes", m, other);
            }
        }
        // One that is not KILLED SUBSUMES none, not even itself.
        fromText("m;gxy,P111");
        due(0, "subsumes", 2, 2);
        due(0, "subsumes", 2, 0);
        due(0, "subsumes", 2, 3);
        due(0, "subsumes", 0, 2);
        due(1, "subsumes", 1, 0);

        sentence("UNKNOWN: either.");
        from(Edges::most);
        within(0, 19, UNKNOWN, "subsumes", 0, 0, 0);
        within(0, 19, UNKNOWN, "subsumes", 1, 0, 0);
        from(Edges::small);
        within(0, 7, UNKNOWN, "subsumes", 0, 0, 7);
        within(0, 7, UNKNOWN, "subsumes", 1, 7, 0);
        refuses(UNKNOWN, "subsumes", 8, 8);
        from(Edges::none);
        refuses(UNKNOWN, "subsumes", 0, 0);
    }

    private void hardest() {
        promise(12);
        sentence("HARDEST;");
        fromText(FOUR);
        due(1, "hardest");
        due(11, "aim", 0, 0, 0);
        due(0, "hardest");
        // Only TEST 1 is left to KILL: MUTANTS 2 and 3.
        due(68, "aim", 2, 0, 0);
        due(2, "hardest");

        sentence("NONE: none is KILLED.");
        fromText(NONE_KILLED);
        due(NONE, "hardest");
        // All are EQUAL, and so none can be KILLED.
        fromText("m;sxx;s00,P111");
        due(NONE, "hardest");

        sentence("STATE: there is no PROGRAM.");
        from(Edges::none);
        refuses(STATE, "hardest");
    }

    private void dayAnswers() {
        promise(13);
        sentence("A DAY of n pairs, that are cells of a SHEET from i on (2 n):");
        from(() -> withPairs(FOUR, 9, 9, 5, 10, 6, 10, 7, 10));
        due(5, "day", 3, 2, 2, 0, 4);
        due(7, "day", 3, 2, 2, 1, 4);
        due(8, "day", 3, 2, 2, 2, 4);
        due(9, "day", 3, 2, 2, 3, 4);
        due(8, "day", 3, 2, 4, 1, 4);
        due(9, "day", 3, 2, 4, 2, 4);
        due(-13, "day", 3, 2, 4, 3, 4);
        due(OUTSIDE, "day", 3, 2, 0, 4, 4);
        due(3, "ofTest", 0, 1);
        for (int sheet = 0; sheet <= 3; sheet++) {
            for (int lane = 0; lane <= 2; lane++) {
                MutantRows x = Due.told(FOUR);
                Due.fill(x, sheet, lane, 5, 10, 99, 22);
                is("a DAY of SHEET " + sheet + ", LANE " + lane, x.day(sheet, lane, 0, 2, 12), 9);
            }
        }

        sentence("how many MUTANTS are KILLED then (what 0),");
        dueDay(4, 0);
        dueDay(3, 0, 0, 21);
        dueDay(0, 0, 0, 20, 0, 21, 0, 22);

        sentence("how many are EQUAL (2),");
        dueDay(0, 2);
        from(() -> withPairs("m;gxx;g00,P111", 1, 1));
        due(2, "day", 3, 2, 0, 0, 2);
        due(4, "day", 3, 2, 0, 1, 2);
        from(() -> withPairs("m;gxx;s00,P111", 1, 0));
        due(8, "day", 3, 2, 0, 1, 2);

        sentence("how many LEAST ones there are (3),");
        dueDay(2, 3);
        dueDay(1, 3, 0, 0);
        dueDay(0, 3, 0, 20, 0, 21, 0, 22);

        sentence("what COVER weighs then (4),");
        dueDay(5, 4);
        dueDay(11, 4, 9, 10);
        dueDay(18, 4, 9, 10, 9, 11, 9, 12);
        dueDay(0, 4, 0, 20, 0, 21, 0, 22);

        sentence("the OUTPUT for INPUTS of TEST t then (10 and t; NONE: there is no such TEST);");
        dueDay(1, 10);
        dueDay(8, 12);
        dueDay(9, 11, 90, 21);
        dueDay(0, 11, 90, 21, 4, 0);
        for (int what = 13; what <= 16; what++) {
            dueDay(NONE, what);
            dueDay(NONE, what, 4, 0);
        }
        from(() -> withPairs(MOST, 57, 26));
        due(5, "day", 3, 2, 0, 0, 16);
        due(2, "day", 3, 2, 0, 1, 16);
    }

    private void dueDay(long want, int what, int... cells) {
        from(() -> withPairs(FOUR, cells));
        due(want, "day", 3, 2, 0, cells.length / 2, what);
    }

    private void dayFirstWrong() {
        promise(13);
        sentence("its FIRST WRONG (1; NONE),");
        dueDay(NONE, 1);
        dueDay(NONE, 1, 4, 0, 9, 12, 99, 22);
        dueDay(0, 1, 0, 1);
        dueDay(1, 1, 4, 0, 4, 4, 0, 1);
        dueDay(0, 1, 1, 13, 4, 0);
        dueDay(2, 1, 4, 0, 1, 10, 1, 16);
        dueDay(0, 1, 0, 23);
        dueDay(1, 1, 4, 0, 99, 26);
        int[] last = new int[40];
        last[39] = 1;
        dueDay(19, 1, last);

        sentence("of one with a FIRST WRONG: -100 less that (but what 1).");
        for (int what : new int[] {0, 2, 3, 4, 10, 12, 13, 16}) {
            from(() -> withPairs(FOUR, 0, 1));
            refuses(-100, "day", 3, 2, 0, 1, what);
            from(() -> withPairs(FOUR, 4, 0, 1, 13, 0, 26));
            refuses(-101, "day", 3, 2, 0, 3, what);
            from(() -> withPairs(FOUR, last));
            refuses(-119, "day", 3, 2, 0, 20, what);
        }
        dueDay(0, 1, 0, 1);
    }

    private void dayRefusals() {
        promise(13);
        sentence("UNKNOWN: SHEET;");
        from(Edges::small);
        within(0, 3, UNKNOWN, "day", 0, 2, 2, 0, 3, 0);
        refuses(UNKNOWN, "day", 4, 3, -1, 21, 5);
        refuses(UNKNOWN, "day", -1, -1, -1, -1, -1);
        from(Edges::none);
        refuses(UNKNOWN, "day", 4, 2, 0, 0, 0);

        sentence("OUTSIDE: lane,");
        from(Edges::small);
        within(0, 2, OUTSIDE, "day", 1, 2, 2, 0, 3, 0);
        refuses(OUTSIDE, "day", 3, 3, 0, 0, 0);

        sentence("n (0 .. 20),");
        from(() -> withPairs(SMALL, new int[42]));
        within(0, 20, OUTSIDE, "day", 3, 3, 2, 0, 0, 0);
        within(0, 20, OUTSIDE, "day", 3, 3, 2, 2, 0, 1);
        refuses(OUTSIDE, "day", 2, 2, 0, 21, 0);
        // Twice it wraps to 0 and to 2.
        refuses(OUTSIDE, "day", 3, 2, 0, LEAST, 0);
        refuses(OUTSIDE, "day", 3, 2, 0, LEAST + 1, 0);

        sentence("what (0 .. 4, 10 .. 16);");
        from(Edges::small);
        within(0, 4, OUTSIDE, "day", 4, 2, 2, 0, 3, 0);
        within(10, 16, OUTSIDE, "day", 4, 2, 2, 0, 3, 0);
        // Ahead of FAULTS, STATE, pairs.
        refuses(OUTSIDE, "day", 2, 1, 0, 0, 5);
        refuses(OUTSIDE, "day", 3, 2, 0, 0, 9);
        refuses(OUTSIDE, "day", 2, 2, 7, 0, 17);
        from(Edges::none);
        refuses(OUTSIDE, "day", 2, 2, 0, 0, -1);
    }

    private void dayFaults() {
        promise(13);
        sentence("FAULTS CAST,");
        from(Edges::small);
        for (int k = 0; k <= 2; k++) {
            for (int lane = 0; lane <= 2; lane++) {
                if (lane != k) {
                    faults(CAST, "day", k, lane, 0, 0, 0);
                    faults(CAST, "day", k, lane, -1, 20, 16);
                }
            }
        }

        sentence("NULL,");
        from(Edges::small);
        for (int lane = 0; lane <= 2; lane++) {
            faults(NULL, "day", 3, lane, 0, 0, 0);
            faults(NULL, "day", 3, lane, -1, 20, 16);
        }
        from(Edges::none);
        faults(NULL, "day", 3, 2, 0, 0, 0);

        sentence("INDEX;");
        from(Edges::small);
        int[][] wrong = {
            {0, 4}, {1, 3}, {2, 3}, {5, 1}, {6, 1}, {7, 0}, {-1, 0}, {-1, 1}, {-2, 1}, {LEAST, 0}, {GREATEST, 0},
            {GREATEST, 1}, {GREATEST - 1, 1}, {GREATEST - 39, 20}, {LEAST, 20},
        };
        for (int[] w : wrong) {
            faults(INDEX, "day", 2, 2, w[0], w[1], 0);
        }
        dueFault(8, 0, "day", 2, 2, 6, 0, 0);
        dueFault(NONE, 0, "day", 2, 2, 4, 1, 1);
        dueFault(NONE, 0, "day", 2, 2, 0, 3, 1);
    }

    private void dayState() {
        promise(13);
        sentence("STATE: there is no PROGRAM;");
        from(Edges::none);
        refuses(STATE, "day", 2, 2, 0, 0, 0);
        refuses(STATE, "day", 2, 2, 0, 3, 1);
        // Behind FAULTS, ahead of pairs.
        faults(CAST, "day", 2, 1, 0, 0, 0);
        faults(INDEX, "day", 2, 2, 7, 0, 0);
        faults(INDEX, "day", 2, 2, 0, 4, 0);
        refuses(STATE, "day", 2, 2, 1, 2, 0);
        refuses(STATE, "day", 1, 1, 0, 1, 0);
    }

    private void dayPairs() {
        promise(13);
        sentence("pair by pair OUTSIDE: the second is not 0 .. 4, 10 .. 16, 20 .. 26,");
        for (int second : new int[] {LEAST, -1, 5, 9, 17, 19, 27, GREATEST, 256, 65536}) {
            refusesPair(1, second);
        }
        for (int second : new int[] {0, 4, 10, 16, 20, 26}) {
            from(() -> withPairs(MOST, 1, second));
            due(NONE, "day", 3, 2, 0, 1, 1);
        }

        sentence("the first is not as told with it.");
        for (int second : new int[] {0, 4}) {
            dueFirsts(second, 0, 4);
        }
        for (int second : new int[] {10, 16}) {
            dueFirsts(second, 1, 9);
        }
        for (int second : new int[] {20, 26}) {
            dueFirsts(second, 0, 99);
        }
        // Also of a STEP, a TEST that is not there.
        from(() -> withPairs(FOUR, 5, 4));
        refuses(OUTSIDE, "day", 3, 2, 0, 1, 1);
        from(() -> withPairs(FOUR, 0, 16));
        refuses(OUTSIDE, "day", 3, 2, 0, 1, 0);
        from(() -> withPairs(FOUR, 100, 26));
        refuses(OUTSIDE, "day", 3, 2, 0, 1, 16);
    }

    private void dueFirsts(int second, int lo, int hi) {
        for (int first : new int[] {LEAST, lo - 1, hi + 1, GREATEST}) {
            refusesPair(first, second);
        }
        for (int first : new int[] {lo, hi}) {
            from(() -> withPairs(MOST, first, second));
            due(NONE, "day", 3, 2, 0, 1, 1);
        }
    }

    /** Alone, and as the last of twenty. */
    private void refusesPair(int first, int second) {
        int[] twenty = new int[40];
        twenty[38] = first;
        twenty[39] = second;
        for (int what : new int[] {0, 1, 16}) {
            from(() -> withPairs(MOST, first, second));
            refuses(OUTSIDE, "day", 3, 2, 0, 1, what);
            from(() -> withPairs(MOST, twenty));
            refuses(OUTSIDE, "day", 3, 2, 0, 20, what);
        }
    }
}
