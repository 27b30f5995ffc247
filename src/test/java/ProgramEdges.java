/** Sentences of promises 1 to 8: a new object, the PROGRAM, its STEPS and TESTS. */
final class ProgramEdges extends Edges {
    ProgramEdges(Sentences document) {
        super(document);
    }

    @Override
    void ask() {
        newObject();
        program();
        programRefusals();
        programFaults();
        ofStep();
        ofTest();
        output();
        way();
        time();
        aim();
        close();
    }

    private void newObject() {
        promise(1);
        sentence("No PROGRAM (no STEPS, TESTS),");
        from(MutantRows::new);
        for (int what = 0; what <= 5; what++) {
            due(0, "many", what);
        }
        due(UNKNOWN, "ofStep", 0, 0);
        due(UNKNOWN, "ofTest", 0, 0);
        due(UNKNOWN, "ofMutant", 0, 0);
        due(STATE, "output", 0, 0);
        due(STATE, "hardest");
        due(0, "trace");
        due(0, "fault");

        sentence("SHEETS have nothing.");
        from(MutantRows::new);
        for (int k = 0; k <= 3; k++) {
            dueFault(-11, NULL, "put", k, 0, 0);
            dueFault(LOST, NULL, "cell", k, 0, 0);
            due(0, "lose", k);
        }
    }

    private void program() {
        promise(2);
        sentence("A PROGRAM by a TEXT of n cells of a SHEET from i on, taken as a row of a LANE:");
        for (int sheet = 0; sheet <= 3; sheet++) {
            for (int lane = 0; lane <= 2; lane++) {
                tellAmid(sheet, lane, 0, 60 - SMALL.length());
                tellAmid(sheet, lane, 60 - SMALL.length(), 0);
                tellAmid(sheet, lane, 1, 1);
            }
        }

        sentence("how many MUTANTS;");
        String[] steps = {";axy", ";s0x", ";m1y", ";g21", ";l30"};
        StringBuilder text = new StringBuilder("m");
        for (int k = 0; k < steps.length; k++) {
            text.append(steps[k]);
            is("program of " + (k + 1) + " STEPS", Due.tell(new MutantRows(), text + ",P112"), 4 * (k + 1));
        }

        sentence("-100 less the FIRST FAULT.");
        from(Edges::small);
        refuses(-100, "program", 0, 0, 0, 0);
        refuses(-100, "program", 0, 0, 1, 23);
        refuses(-101, "program", 0, 0, 0, 1);
        refuses(-123, "program", 0, 0, 0, 23);
        refuses(-100, "program", 1, 1, 0, 3);
        // The place is one of the TEXT, wherever in the row that begins.
        from(() -> {
            MutantRows x = small();
            Due.fill(x, 3, 0, "mm;axy,P312".chars().toArray());
            return x;
        });
        due(-101, "program", 3, 0, 0, 11);
        due(-109, "program", 3, 0, 1, 9);
        due(4, "program", 3, 0, 1, 10);
    }

    private void tellAmid(int sheet, int lane, int ahead, int behind) {
        MutantRows x = new MutantRows();
        Due.fill(x, sheet, lane, (";".repeat(ahead) + SMALL + ",".repeat(behind)).chars().toArray());
        String name = "TEXT from " + ahead + " on of SHEET " + sheet + ", LANE " + lane;
        is(name, x.program(sheet, lane, ahead, SMALL.length()), 8);
        is("STEPS of " + name, x.many(0), 2);
        is("TESTS of " + name, x.many(1), 3);
        is("last y of " + name, x.ofTest(2, 4), 7);
    }

    private void programRefusals() {
        promise(2);
        sentence("UNKNOWN;");
        from(Edges::small);
        within(0, 3, UNKNOWN, "program", 0, 0, 0, 0, 24);
        refuses(UNKNOWN, "program", 4, 3, -1, -1);
        refuses(UNKNOWN, "program", -1, -1, -1, -1);

        sentence("OUTSIDE: lane;");
        from(Edges::small);
        within(0, 2, OUTSIDE, "program", 1, 0, 0, 0, 24);
        refuses(OUTSIDE, "program", 0, 3, -1, -1);
        refuses(OUTSIDE, "program", 3, -1, -1, -1);
    }

    private void programFaults() {
        promise(2);
        sentence("FAULTS CAST (nothing is no CAST),");
        from(Edges::small);
        for (int k = 0; k <= 2; k++) {
            for (int lane = 0; lane <= 2; lane++) {
                if (lane != k) {
                    faults(CAST, "program", k, lane, 0, 1);
                    faults(CAST, "program", k, lane, -1, -1);
                }
            }
        }
        faults(NULL, "program", 3, 0, 0, 0);

        sentence("NULL,");
        from(Edges::small);
        for (int lane = 0; lane <= 2; lane++) {
            faults(NULL, "program", 3, lane, 0, 0);
            faults(NULL, "program", 3, lane, 0, -1);
            faults(NULL, "program", 3, lane, -1, 1);
        }

        sentence("SIZE: n is below 0,");
        from(Edges::small);
        faults(SIZE, "program", 0, 0, 0, -1);
        faults(SIZE, "program", 0, 0, 0, LEAST);
        faults(SIZE, "program", 0, 0, -1, -1);
        faults(SIZE, "program", 0, 0, 25, -1);
        faults(SIZE, "program", 0, 0, GREATEST, LEAST);

        sentence("INDEX: not all cells are there;");
        from(Edges::small);
        int[][] wrong = {
            {0, 25}, {1, 24}, {24, 1}, {25, 0}, {25, 1}, {-1, 0}, {-1, 1}, {-1, 24}, {LEAST, 0}, {GREATEST, 0},
            {1, GREATEST}, {GREATEST, 1}, {GREATEST, GREATEST}, {LEAST, GREATEST},
        };
        for (int[] w : wrong) {
            faults(INDEX, "program", 0, 0, w[0], w[1]);
        }
        dueFault(-100, 0, "program", 0, 0, 24, 0);
        dueFault(-100, 0, "program", 0, 0, 23, 1);
        dueFault(8, 0, "program", 0, 0, 0, 24);

        sentence("-100 less it.");
        from(Edges::small);
        // All else is looked at ahead of the TEXT: SHEETS 1 and 2 hold none.
        refuses(UNKNOWN, "program", 4, 1, 0, 3);
        refuses(OUTSIDE, "program", 1, 3, 0, 3);
        faults(CAST, "program", 1, 2, 0, 3);
        faults(NULL, "program", 3, 1, 0, 3);
        faults(SIZE, "program", 1, 1, 0, -1);
        faults(INDEX, "program", 1, 1, 0, 4);
        refuses(-100, "program", 1, 1, 0, 3);
        refuses(-100, "program", 2, 2, 5, 1);
    }

    private void ofStep() {
        promise(3);
        sentence("Of a STEP: 0 its WAY,");
        fromText("m;axy;sxy;mxy;gxy;lxy,P111");
        for (int k = 0; k <= 4; k++) {
            due(k, "ofStep", k, 0);
        }

        sentence("1, 2 its SOURCES (0 .. 3 a STEP, 5 x, 6 y).");
        fromText("m;axy;ayx;a01;a20;a33,P111");
        int[][] sources = {{5, 6}, {6, 5}, {0, 1}, {2, 0}, {3, 3}};
        for (int k = 0; k <= 4; k++) {
            due(sources[k][0], "ofStep", k, 1);
            due(sources[k][1], "ofStep", k, 2);
        }

        sentence("UNKNOWN;");
        from(Edges::most);
        within(0, 4, UNKNOWN, "ofStep", 0, 0, 0);
        from(Edges::small);
        within(0, 1, UNKNOWN, "ofStep", 0, 0, 2);
        refuses(UNKNOWN, "ofStep", 2, 3);
        from(Edges::none);
        refuses(UNKNOWN, "ofStep", 0, 0);

        sentence("OUTSIDE.");
        from(Edges::small);
        within(0, 2, OUTSIDE, "ofStep", 1, 0, 0);
        within(0, 2, OUTSIDE, "ofStep", 1, 1, 0);
    }

    private void ofTest() {
        promise(4);
        sentence("Of a TEST: 0 kind, 1 TIME, 2 WEIGHT, 3, 4 its INPUTS,");
        fromText("m;axy,P100,P999,S109,S990,D145,D954");
        int[][] parts = {
            {0, 1, 1, 0, 0}, {0, 9, 9, 9, 9}, {1, 1, 2, 0, 9}, {1, 9, 10, 9, 0}, {2, 1, 2, 4, 5}, {2, 9, 18, 5, 4},
        };
        for (int t = 0; t < parts.length; t++) {
            for (int what = 0; what < 5; what++) {
                due(parts[t][what], "ofTest", t, what);
            }
        }

        sentence("5 the OUTPUT for these,");
        fromText("m;sxy,P100,P109,P190,P199");
        int[] outputs = {0, 1, 9, 0};
        for (int t = 0; t < outputs.length; t++) {
            due(outputs[t], "ofTest", t, 5);
        }

        sentence("6 MUTANTS that it KILLS, as a set.");
        // 0 0: none. 1 2: a 3, s 9, m 2, g 2, l 1. 5 0: a 5, s 5, m 0, g 5, l 0.
        fromText("m;axy,P100,P112,P150");
        int[] sets = {0, 15, 10};
        for (int t = 0; t < sets.length; t++) {
            due(sets[t], "ofTest", t, 6);
        }
        // STEP 4 alone is the OUTPUT: MUTANTS 16 to 19, the last bits.
        fromText("m;axy;axy;axy;axy;axy,P112");
        due(0xf0000, "ofTest", 0, 6);

        sentence("UNKNOWN;");
        from(Edges::most);
        within(0, 6, UNKNOWN, "ofTest", 0, 0, 6);
        from(Edges::small);
        within(0, 2, UNKNOWN, "ofTest", 0, 0, 0);
        refuses(UNKNOWN, "ofTest", 3, 7);
        from(Edges::none);
        refuses(UNKNOWN, "ofTest", 0, 0);

        sentence("OUTSIDE.");
        from(Edges::small);
        within(0, 6, OUTSIDE, "ofTest", 1, 0, 0);
        within(0, 6, OUTSIDE, "ofTest", 1, 2, 0);
    }

    private void output() {
        promise(5);
        sentence("The OUTPUT for INPUTS.");
        fromText("m;axy;sxy;m01,P111");
        // 9 9: 8 times 0; 9 0: 9 times 9; 0 9: 9 times 1; 7 5: 2 times 2.
        due(0, "output", 9, 9);
        due(1, "output", 9, 0);
        due(9, "output", 0, 9);
        due(4, "output", 7, 5);
        due(0, "output", 0, 0);

        sentence("OUTSIDE: x, y (0 .. 9);");
        from(Edges::small);
        within(0, 9, OUTSIDE, "output", 0, 0, 0);
        within(0, 9, OUTSIDE, "output", 1, 0, 0);
        within(0, 9, OUTSIDE, "output", 0, 0, 9);
        within(0, 9, OUTSIDE, "output", 1, 9, 0);
        from(Edges::none);
        refuses(OUTSIDE, "output", 10, 0);
        refuses(OUTSIDE, "output", 0, -1);

        sentence("STATE: there is no PROGRAM.");
        from(Edges::none);
        refuses(STATE, "output", 0, 0);
        refuses(STATE, "output", 9, 9);
        due(4, "program", 0, 0, 0, 10);
        due(8, "output", 9, 9);
    }

    private void way() {
        promise(6);
        sentence("A STEP goes another WAY (0 .. 4): which it was.");
        from(Edges::most);
        for (int k = 0; k <= 4; k++) {
            due(k, "way", k, 4);
            due(4, "way", k, 0);
            due(0, "way", k, 0);
            due(0, "ofStep", k, 0);
        }
        // All STEPS go a now: x and y is 3, and 1 is 4, and 2 is 6, and 4 is 0, and 3 is 3.
        due(3, "ofTest", 0, 5);
        due(3, "output", 1, 2);
        due(1, "ofMutant", 16, 1);

        sentence("UNKNOWN;");
        from(Edges::most);
        within(0, 4, UNKNOWN, "way", 0, 0, 0);
        from(Edges::small);
        within(0, 1, UNKNOWN, "way", 0, 0, 4);
        refuses(UNKNOWN, "way", 2, 5);
        from(Edges::none);
        refuses(UNKNOWN, "way", 0, 0);

        sentence("OUTSIDE.");
        from(Edges::small);
        within(0, 4, OUTSIDE, "way", 1, 0, 0);
        within(0, 4, OUTSIDE, "way", 1, 1, 0);
    }

    private void time() {
        promise(7);
        sentence("TIME of a TEST becomes v (1 .. 9): what it was.");
        from(Edges::most);
        for (int t = 0; t <= 6; t++) {
            due(t + 1, "time", t, 9);
            due(9, "time", t, 1);
            due(1, "time", t, 1);
            due(1, "ofTest", t, 1);
            due(t % 3 == 0 ? 1 : 2, "ofTest", t, 2);
        }

        sentence("UNKNOWN;");
        from(Edges::most);
        within(0, 6, UNKNOWN, "time", 0, 0, 1);
        from(Edges::small);
        within(0, 2, UNKNOWN, "time", 0, 0, 9);
        refuses(UNKNOWN, "time", 3, 0);
        from(Edges::none);
        refuses(UNKNOWN, "time", 0, 1);

        sentence("OUTSIDE.");
        from(Edges::small);
        within(1, 9, OUTSIDE, "time", 1, 0, 1);
        within(1, 9, OUTSIDE, "time", 1, 2, 1);
    }

    private void aim() {
        promise(8);
        sentence("INPUTS of a TEST become x, y (0 .. 9): 10 times x and y that were.");
        from(Edges::most);
        int[] were = {12, 34, 56, 78, 90, 13, 35};
        for (int t = 0; t <= 6; t++) {
            due(were[t], "aim", t, 9, 9);
            due(99, "aim", t, 9, 0);
            due(90, "aim", t, 0, 9);
            due(9, "aim", t, 0, 0);
            due(0, "aim", t, 5, 2);
            due(5, "ofTest", t, 3);
            due(2, "ofTest", t, 4);
        }

        sentence("UNKNOWN;");
        from(Edges::most);
        within(0, 6, UNKNOWN, "aim", 0, 0, 0, 0);
        from(Edges::small);
        within(0, 2, UNKNOWN, "aim", 0, 0, 9, 9);
        refuses(UNKNOWN, "aim", 3, 10, -1);
        from(Edges::none);
        refuses(UNKNOWN, "aim", 0, 0, 0);

        sentence("OUTSIDE.");
        from(Edges::small);
        for (int t = 0; t <= 2; t++) {
            within(0, 9, OUTSIDE, "aim", 1, t, 0, 0);
            within(0, 9, OUTSIDE, "aim", 2, t, 0, 0);
        }
        // One that is as told does not make up for the other one, and does not come to be alone.
        refuses(OUTSIDE, "aim", 0, 9, 10);
        refuses(OUTSIDE, "aim", 0, 10, 9);
    }
}
