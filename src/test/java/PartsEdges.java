import java.util.Arrays;

/** Sentences of promises 27 to 32: TELLING, LOGGED, kinds, TRACE, FAULTS, how many. */
final class PartsEdges extends Edges {
    /** Of each kind one with the least TIME and one with the greatest. */
    private static final String KINDS = "m;axy,P112,P900,S150,S901,D115,D922";

    PartsEdges(Sentences document) {
        super(document);
    }

    @Override
    void ask() {
        tell();
        log();
        as();
        trace();
        fault();
        faultOfEachCall();
        many();
        close();
    }

    private void tell() {
        promise(27);
        sentence("TELLING of a TEST.");
        int[] told = {1, 9, 101, 109, 102, 118};
        for (int t = 0; t < told.length; t++) {
            fromText(KINDS);
            due(told[t], "tell", t);
            due(t < 2 ? 1 : t < 4 ? 31 * 2 + 1 : 31 * (31 * (31 * 3 + 2) + 1) + 1, "trace");
        }

        sentence("UNKNOWN.");
        from(Edges::most);
        within(0, 6, UNKNOWN, "tell", 0, 0);
        from(Edges::small);
        within(0, 2, UNKNOWN, "tell", 0, 0);
        from(Edges::none);
        refuses(UNKNOWN, "tell", 0);
    }

    private void log() {
        promise(28);
        sentence("How it is LOGGED.");
        // At 1 2 all four MUTANTS differ, at 0 0 none, at 5 0 two, at 0 1 three.
        int[] logged = {4, 0, 2, 3, 60, 60};
        for (int t = 0; t < logged.length; t++) {
            fromText(KINDS);
            due(logged[t], "log", t);
            due(t < 4 ? 4 : 5, "trace");
        }
        fromText("m;syx;mxy;s1x;a20;m3y,P163");
        due(20, "log", 0);

        sentence("UNKNOWN.");
        from(Edges::most);
        within(0, 6, UNKNOWN, "log", 0, 0);
        from(Edges::small);
        within(0, 2, UNKNOWN, "log", 0, 0);
        from(Edges::none);
        refuses(UNKNOWN, "log", 0);
    }

    private void as() {
        promise(29);
        sentence("A TEST, taken as one of a kind: 1.");
        from(Edges::small);
        for (int t = 0; t <= 2; t++) {
            dueFault(1, 0, "as", t, t);
        }

        sentence("UNKNOWN;");
        from(Edges::most);
        within(0, 6, UNKNOWN, "as", 0, 0, 0);
        from(Edges::small);
        within(0, 2, UNKNOWN, "as", 0, 0, 0);
        refuses(UNKNOWN, "as", 3, 3);
        from(Edges::none);
        refuses(UNKNOWN, "as", 0, 0);

        sentence("OUTSIDE;");
        from(Edges::small);
        for (int t = 0; t <= 2; t++) {
            within(0, 2, OUTSIDE, "as", 1, t, 0);
        }

        sentence("CAST: it is none (each is a PLAIN one, too; a DOUBLE one is a SLOW one).");
        from(Edges::small);
        faults(CAST, "as", 0, 1);
        faults(CAST, "as", 0, 2);
        faults(CAST, "as", 1, 2);
        dueFault(1, 0, "as", 0, 0);
        dueFault(1, 0, "as", 1, 0);
        dueFault(1, 0, "as", 2, 0);
        dueFault(1, 0, "as", 2, 1);
    }

    private void trace() {
        promise(30);
        sentence("TRACE.");
        from(MutantRows::new);
        due(0, "trace");
        fromText(KINDS);
        due(0, "trace");
        due(1, "tell", 0);
        due(1, "trace");
        due(1, "trace");
        due(4, "log", 0);
        due(31 + 4, "trace");
        due(60, "log", 4);
        due(31 * 35 + 5, "trace");
        due(UNKNOWN, "tell", 6);
        due(UNKNOWN, "log", -1);
        due(31 * 35 + 5, "trace");
    }

    private void fault() {
        promise(31);
        sentence("The FAULT of the latest call that names one:");
        from(Edges::small);
        due(-11, "put", 3, 0, 0);
        due(NULL, "fault");
        due(-12, "as", 0, 1);
        due(CAST, "fault");
        due(-13, "put", 1, 3, 0);
        due(INDEX, "fault");
        due(-14, "sheet", 1, 0, -1);
        due(SIZE, "fault");
        due(LOST, "cell", 3, 0, 0);
        due(NULL, "fault");
        due(NULL, "fault");
        // Calls that name none leave it, answered or refused.
        dueBehind(INDEX, "ofStep 0 0", "ofTest 0 6", "output 0 0", "way 0 1", "time 0 1", "aim 0 0 0", "ofMutant 0 2",
                "state 0 0", "subsumes 0 0", "hardest", "cover 0", "choose 0 0", "score 0", "reading 5", "back 1",
                "kinds 0", "ways 0", "odds 0 0", "lose 2", "tell 2", "log 2", "trace", "fault", "many 3");
        dueBehind(INDEX, "ofStep 9 0", "ofTest 9 6", "output 10 0", "way 9 1", "time 9 1", "aim 9 0 0", "ofMutant 20 2",
                "state 0 9", "subsumes 0 20", "cover 3", "choose 3 0", "score 2", "reading 201", "back 9",
                "kinds 9", "ways 9", "odds 20 0", "lose 4", "tell 9", "log 9", "many 6");

        sentence("(0 ahead of any).");
        from(MutantRows::new);
        due(0, "fault");
        due(0, "many", 0);
        due(0, "lose", 0);
        due(UNKNOWN, "tell", 0);
        due(0, "fault");
    }

    private void faultOfEachCall() {
        promise(31);
        sentence("0: it came to none,");
        dueBehind(0, "program 0 0 0 24", "program 0 0 0 3", "day 2 2 0 3 0", "day 2 2 0 0 16", "sheet 1 0 0",
                "put 1 0 0", "cell 1 0 1", "copy 1 0 1 0 3", "as 2 1");

        sentence("or was refused");
        dueBehind(0, "program 4 0 0 24", "program 0 3 0 24", "day 4 2 0 0 0", "day 2 3 0 0 0", "day 2 2 0 21 0",
                "day 2 2 0 0 5", "day 2 2 1 1 0", "sheet 4 0 0", "sheet 1 3 0", "sheet 1 0 61", "put 4 0 0",
                "cell 4 0 1", "cell 1 0 3", "copy 4 0 1 0 3", "copy 1 0 4 0 3", "as 3 1", "as 2 3");
        from(Edges::none);
        dueFault(STATE, 0, "day", 2, 2, 0, 0, 0);
    }

    /** What fault() tells behind each of some calls, where INDEX was the latest FAULT ahead. */
    private void dueBehind(int fault, String... calls) {
        for (String call : calls) {
            String[] parts = call.split(" ");
            int[] args = Arrays.stream(parts).skip(1).mapToInt(Integer::parseInt).toArray();
            MutantRows x = small();
            answer(x, parts[0], args);
            is("fault() behind " + told(parts[0], args), x.fault(), fault);
        }
    }

    private void many() {
        promise(32);
        sentence("How many: 0 STEPS, 1 TESTS, 2 MUTANTS,");
        dueMany(0, MOST, 5, 7, 20);
        dueMany(0, "m;axy,P112", 1, 1, 4);
        dueMany(0, SMALL, 2, 3, 8);

        sentence("3 that are KILLED, 4 that are EQUAL,");
        dueMany(3, MOST, 20, 0);
        dueMany(3, "m;gxy,P300", 0, 0);
        dueMany(3, "m;sxx;s00,P111", 0, 8);
        dueMany(3, "m;gxx,P111", 2, 1);
        // The one that differs at 9 9 alone is not EQUAL.
        dueMany(3, "m;lyx;m00;s10;s02;g13,P100", 0, 0);

        sentence("5 READINGS");
        from(Edges::most);
        due(8, "many", 5);
        due(FULL, "reading", 0);
        due(8, "many", 5);
        due(0, "back", 8);
        due(0, "many", 5);
        due(1, "reading", 0);
        due(1, "many", 5);

        sentence("(0 all without a PROGRAM).");
        from(Edges::none);
        for (int what = 0; what <= 5; what++) {
            due(0, "many", what);
        }

        sentence("OUTSIDE.");
        from(Edges::small);
        within(0, 5, OUTSIDE, "many", 0, 0);
        from(Edges::none);
        within(0, 5, OUTSIDE, "many", 0, 0);
    }

    private void dueMany(int from, String text, int... counts) {
        fromText(text);
        for (int c = 0; c < counts.length; c++) {
            due(counts[c], "many", from + c);
        }
    }
}
