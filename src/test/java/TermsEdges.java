/** Sentences of the Terms: REFUSALS, FAULTS, and part ==== 5: SHEETS, TELLING. */
final class TermsEdges extends Edges {
    TermsEdges(Sentences document) {
        super(document);
    }

    @Override
    void ask() {
        order();
        refusals();
        changeNothing();
        faultsOfTheMachine();
        firstFault();
        tellings();
        sheets();
        bodies();
        logged();
        lastCall();
        close();
    }

    private void order() {
        term(0, "REFUSALS, in the order in which a call's line tells them:");
        from(Edges::small);
        refuses(UNKNOWN, "program", 4, 3, 0, 24);
        refuses(UNKNOWN, "ofStep", 2, 3);
        refuses(UNKNOWN, "ofTest", 3, 7);
        refuses(UNKNOWN, "way", 2, 5);
        refuses(UNKNOWN, "time", 3, 0);
        refuses(UNKNOWN, "aim", 3, 10, 10);
        refuses(UNKNOWN, "ofMutant", 8, 7);
        refuses(UNKNOWN, "day", 4, 3, 0, 21, 5);
        refuses(UNKNOWN, "sheet", 4, 3, 61);
        refuses(UNKNOWN, "as", 3, 3);
        from(Edges::most);
        refuses(OUTSIDE, "reading", 201);
        from(Edges::none);
        refuses(OUTSIDE, "output", 10, 0);
        refuses(OUTSIDE, "cover", 3);
        refuses(OUTSIDE, "choose", 3, 0);
        refuses(OUTSIDE, "day", 2, 2, 0, 0, 5);
        refuses(STATE, "reading", 201);
        refuses(STATE, "day", 2, 2, 1, 1, 0);
    }

    private void refusals() {
        // A place of a row that is not there: put, cell, copy name INDEX for it, and none names UNKNOWN.
        term(0, "UNKNOWN (there is no such STEP, TEST, MUTANT, SHEET, place of a row),");
        from(Edges::small);
        refuses(UNKNOWN, "ofStep", 2, 0);
        refuses(UNKNOWN, "ways", 2);
        refuses(UNKNOWN, "ofTest", 3, 0);
        refuses(UNKNOWN, "state", 0, 3);
        refuses(UNKNOWN, "ofMutant", 8, 0);
        refuses(UNKNOWN, "subsumes", 0, 8);
        refuses(UNKNOWN, "put", 4, 0, 0);
        refuses(UNKNOWN, "copy", 0, 0, 4, 0, 0);
        faults(INDEX, "put", 1, 3, 0);

        term(0, "OUTSIDE (another number is not as told),");
        from(Edges::small);
        refuses(OUTSIDE, "way", 0, 5);
        refuses(OUTSIDE, "time", 0, 10);
        refuses(OUTSIDE, "aim", 0, 0, 10);
        refuses(OUTSIDE, "sheet", 0, 0, 61);
        refuses(OUTSIDE, "many", 6);

        term(0, "STATE (as told),");
        from(Edges::none);
        refuses(STATE, "output", 0, 0);
        refuses(STATE, "hardest");
        refuses(STATE, "day", 2, 2, 0, 0, 0);
        refuses(STATE, "cover", 0);
        refuses(STATE, "choose", 0, 0);
        refuses(STATE, "reading", 0);

        term(0, "FULL;");
        from(Edges::most);
        refuses(FULL, "reading", 0);
    }

    private void changeNothing() {
        term(0, "they change nothing (but fault(), of a call that names FAULTS).");
        for (int far : new int[] {LEAST, -1, 61, GREATEST}) {
            from(Edges::small);
            refusesAll(far);
            from(Edges::most);
            refusesAll(far);
            from(Edges::none);
            refusesAll(far);
        }
        from(Edges::most);
        refuses(OUTSIDE, "reading", 201);
        refuses(OUTSIDE, "back", 9);
    }

    /** Each call with a number that is none of any STEP, TEST, MUTANT, SHEET, nor as told. */
    private void refusesAll(int far) {
        for (String call : new String[] {"ofStep", "ofTest", "way", "time", "ofMutant", "state", "subsumes", "as"}) {
            refuses(UNKNOWN, call, far, far);
        }
        for (String call : new String[] {"kinds", "ways", "lose", "tell", "log"}) {
            refuses(UNKNOWN, call, far);
        }
        for (String call : new String[] {"aim", "sheet", "put"}) {
            refuses(UNKNOWN, call, far, far, far);
        }
        refuses(UNKNOWN, "program", far, far, far, far);
        refuses(UNKNOWN, "day", far, far, far, far, far);
        refuses(UNKNOWN, "copy", far, far, far, far, far);
        for (String call : new String[] {"output", "choose"}) {
            refuses(OUTSIDE, call, far, far);
        }
        for (String call : new String[] {"cover", "back", "many"}) {
            refuses(OUTSIDE, call, far);
        }
        refuses(LOST, "score", far);
        refuses(LOST, "odds", far, far);
        refuses(LOST, "cell", far, far, far);
    }

    private void faultsOfTheMachine() {
        term(0, "FAULTS are the machine's: 1 NULL (there is nothing),");
        from(Edges::small);
        faults(1, "program", 3, 0, 0, 0);
        faults(1, "day", 3, 2, 0, 0, 0);
        faults(1, "put", 3, 0, 0);
        faults(1, "cell", 3, 0, 0);
        faults(1, "copy", 3, 0, 1, 0, 0);
        faults(1, "copy", 1, 0, 3, 0, 0);

        term(0, "2 CAST (it is of another lane, kind),");
        from(Edges::small);
        faults(2, "program", 0, 1, 0, 0);
        faults(2, "day", 2, 0, 0, 0, 0);
        faults(2, "cell", 1, 0, 2);
        faults(2, "copy", 1, 0, 2, 0, 0);
        faults(2, "as", 0, 1);
        faults(2, "as", 1, 2);

        term(0, "3 INDEX (of cells from i on also where i is not 0 .. how many there are,"
                + " if none of them is taken, too),");
        from(Edges::small);
        for (int i : new int[] {LEAST, -1, 25, GREATEST}) {
            faults(3, "program", 0, 0, i, 0);
        }
        for (int i : new int[] {LEAST, -1, 7, GREATEST}) {
            faults(3, "day", 2, 2, i, 0, 0);
        }
        for (int i : new int[] {LEAST, -1, 4, GREATEST}) {
            faults(3, "copy", 1, i, 1, 0, 0);
            faults(3, "copy", 1, 0, 1, i, 0);
        }
        faults(3, "put", 1, 3, 0);
        faults(3, "cell", 1, 3, 1);
        dueFault(-100, 0, "program", 0, 0, 24, 0);
        dueFault(-100, 0, "program", 0, 0, 0, 0);
        dueFault(8, 0, "day", 2, 2, 6, 0, 0);
        dueFault(0, 0, "copy", 1, 3, 1, 3, 0);

        term(0, "4 SIZE (a length below 0).");
        from(Edges::small);
        faults(4, "program", 0, 0, 0, -1);
        faults(4, "sheet", 1, 1, -1);
        faults(4, "sheet", 3, 0, LEAST);
        dueFault(1, 0, "sheet", 3, 0, 0);
    }

    private void firstFault() {
        term(0, "Of a call the first that is come to, in the order told;");
        from(Edges::small);
        faults(CAST, "program", 0, 1, -1, -1);
        faults(NULL, "program", 3, 1, -1, -1);
        faults(SIZE, "program", 0, 0, -1, -1);
        faults(CAST, "day", 0, 1, -1, 20, 0);
        faults(NULL, "day", 3, 1, -1, 20, 0);
        faults(NULL, "put", 3, -1, 0);
        faults(CAST, "cell", 0, -1, 1);
        faults(NULL, "cell", 3, -1, 1);
        faults(NULL, "copy", 0, -1, 3, -1, -1);
        faults(CAST, "copy", 0, -1, 1, -1, -1);
        // A refusal that is told ahead is come to ahead, one that is told behind is not.
        refuses(OUTSIDE, "program", 3, 3, -1, -1);
        refuses(OUTSIDE, "sheet", 0, 3, -1);
        from(Edges::none);
        faults(NULL, "day", 3, 2, 0, 0, 0);

        term(0, "it answers -10 less it (LOST, where a long is answered, as for refusals)");
        from(Edges::small);
        dueFault(-11, 1, "put", 3, 0, 0);
        dueFault(-12, 2, "as", 0, 1);
        dueFault(-13, 3, "put", 1, 3, 0);
        dueFault(-14, 4, "sheet", 1, 1, -1);
        dueFault(LOST, 1, "cell", 3, 0, 0);
        dueFault(LOST, 2, "cell", 1, 0, 0);
        dueFault(LOST, 3, "cell", 1, 3, 1);
        dueFault(LOST, 0, "cell", 4, 0, 0);
        due(LOST, "score", 2);
        due(LOST, "odds", 8, 0);

        term(0, "and changes nothing;");
        from(Edges::most);
        faults(INDEX, "program", 0, 0, 1, 56);
        faults(SIZE, "sheet", 0, 0, -1);
        faults(INDEX, "put", 0, 56, 9);
        faults(INDEX, "copy", 0, 0, 0, 1, 56);
        faults(CAST, "copy", 0, 0, 1, 0, 1);
        faults(CAST, "as", 0, 2);

        term(0, "fault() tells it.");
        from(Edges::small);
        due(-11, "put", 3, 0, 0);
        due(1, "fault");
        due(-12, "as", 0, 1);
        due(2, "fault");
        due(-13, "put", 1, 3, 0);
        due(3, "fault");
        due(-14, "sheet", 1, 1, -1);
        due(4, "fault");
    }

    private void tellings() {
        term(12, "NONE is -9.");
        is("NONE", NONE, -9);
        fromText("m;gxy,P300");
        due(-9, "hardest");
        due(-9, "choose", 0, 10);

        term(9, "Sets are told as bits (bit k for number k).");
        fromText("m;gxy,P111,P100,P100,P100,P100,P100,P123");
        due(1 + 64, "ofMutant", 0, 2);
        due(64, "ofMutant", 2, 2);
        due(1 + 2, "ofTest", 0, 6);
        due(0, "ofTest", 1, 6);
        due(64, "cover", 0);
        due(1 + 2 + 4, "kinds", 0);
        due(1 + 2 + 4 + 8 + 16, "ways", 0);

        term(21, "Shares are told as upper and lower number (above 0) in least terms.");
        fromText("m;gxx;axy,P105");
        // STEP 0 is used by none: its MUTANTS are EQUAL. Of the others two are KILLED at 0 5.
        due(0, "odds", 0, 0);
        due(1, "odds", 0, 1);
        due(4, "odds", 4, 0);
        due(5, "odds", 4, 1);
        due(1, "score", 0);
        due(2, "score", 1);
        fromText("m;gxy,P300");
        due(0, "score", 0);
        due(1, "score", 1);
    }

    private void sheets() {
        term(22, "SHEETS 0 .. 3 have nothing (at first), or a row of 0 .. 60 numbers (0 at first) of a LANE:");
        from(MutantRows::new);
        for (int k = 0; k <= 3; k++) {
            dueFault(LOST, NULL, "cell", k, 0, 0);
            due(1, "sheet", k, 2, 0);
            dueFault(LOST, INDEX, "cell", k, 0, 2);
            due(1, "sheet", k, 2, 60);
            for (int i = 0; i < 60; i++) {
                due(0, "cell", k, i, 2);
            }
            dueFault(LOST, INDEX, "cell", k, 60, 2);
        }
        due(UNKNOWN, "sheet", 4, 2, 1);
        due(UNKNOWN, "sheet", -1, 2, 1);
        due(OUTSIDE, "sheet", 0, 2, 61);

        term(24, "0 bytes, 1 shorts, 2 ints;");
        int[][] ends = {{-128, 127}, {-32768, 32767}, {LEAST, GREATEST}};
        from(MutantRows::new);
        for (int lane = 0; lane <= 2; lane++) {
            due(1, "sheet", lane, lane, 2);
            due(1, "put", lane, 0, ends[lane][0]);
            due(1, "put", lane, 1, ends[lane][1]);
            due(ends[lane][0], "cell", lane, 0, lane);
            due(ends[lane][1], "cell", lane, 1, lane);
        }

        term(24, "what comes to a cell of it is cut to its LANE.");
        int[] told = {128, 255, 256, -129, 32768, 65535, 65536, -32769, LEAST, GREATEST};
        int[] asByte = {-128, -1, 0, 127, 0, -1, 0, -1, 0, -1};
        int[] asShort = {128, 255, 256, -129, -32768, -1, 0, 32767, 0, -1};
        for (int c = 0; c < told.length; c++) {
            from(MutantRows::new);
            for (int lane = 0; lane <= 2; lane++) {
                due(1, "sheet", lane, lane, 1);
                due(1, "put", lane, 0, told[c]);
                due(lane == 0 ? asByte[c] : lane == 1 ? asShort[c] : told[c], "cell", lane, 0, lane);
            }
        }
        // Cut ahead of being read: 109 and 256 is an m as a byte, but not as a short.
        for (int lane = 0; lane <= 1; lane++) {
            MutantRows x = new MutantRows();
            Due.fill(x, 0, lane, "?;axy,P312".chars().toArray());
            x.put(0, 0, 'm' + 256);
            is("an m that is cut, LANE " + lane, x.program(0, lane, 0, 10), lane == 0 ? 4 : -100);
        }
    }

    private void bodies() {
        term(27, "TELLING of TESTS by bodies that leave their number in TRACE (an int that wraps, 0 at first,"
                + " becomes 31 times it and the number) as they begin:");
        fromText(SMALL);
        due(0, "trace");
        int trace = 0;
        for (int c = 0; c < 12; c++) {
            due(104, "tell", 2);
            for (int body : new int[] {3, 2, 1, 1}) {
                trace = (int) (31L * trace + body);
            }
            due(trace, "trace");
        }
        // Six bodies are not enough to wrap, eight are.
        fromText(SMALL);
        for (int c = 0; c < 6; c++) {
            due(60, "log", 2);
        }
        due(5 * (1 + 31 + 961 + 29791 + 923521 + 28629151), "trace");
        due(60, "log", 2);
        due((int) (5L * (1 + 31 + 961 + 29791 + 923521 + 28629151L + 887503681L)), "trace");

        term(27, "PLAIN (1): TIME.");
        dueTold("P1", 1, 1);
        dueTold("P9", 9, 1);

        term(27, "SLOW (2): what PLAIN's gives, and 100.");
        dueTold("S1", 101, 2, 1);
        dueTold("S9", 109, 2, 1);

        term(27, "DOUBLE (3): what SLOW's gives, and what PLAIN's gives (SLOW's left out).");
        dueTold("D1", 102, 3, 2, 1, 1);
        dueTold("D9", 118, 3, 2, 1, 1);
    }

    private void dueTold(String test, int want, int... bodies) {
        fromText("m;axy," + test + "12");
        due(want, "tell", 0);
        int trace = 0;
        for (int body : bodies) {
            trace = 31 * trace + body;
        }
        due(trace, "trace");
    }

    private void logged() {
        term(28, "LOGGED by a lent body (4): how many MUTANTS it KILLS;");
        for (char kind : new char[] {'P', 'S'}) {
            fromText("m;axy," + kind + "100");
            due(0, "log", 0);
            due(4, "trace");
            due(0, "aim", 0, 1, 2);
            due(4, "log", 0);
            due(31 * 4 + 4, "trace");
        }

        term(28, "DOUBLE ones have their own (5): 60.");
        fromText("m;axy,D100");
        due(60, "log", 0);
        due(5, "trace");
        due(0, "aim", 0, 1, 2);
        due(60, "log", 0);
        due(31 * 5 + 5, "trace");
    }

    private void lastCall() {
        about("An object is used for at most 512 calls after it has been made;");
        String text = "m;axy,D912";
        MutantRows x = new MutantRows();
        // sheet, a put for each code, program.
        is("program", Due.tell(x, text), 4);
        int calls = text.length() + 2;
        int trace = 0;
        for (; calls < 511; calls++) {
            is("call " + (calls + 1), x.tell(0), 118);
            trace = 31 * (31 * (31 * (31 * trace + 3) + 2) + 1) + 1;
        }
        is("trace(), the 512th call", x.trace(), trace);
    }
}
