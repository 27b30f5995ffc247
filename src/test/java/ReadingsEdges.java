/** Sentences of promises 17 to 21: READINGS, what they leave, ODDS. */
final class ReadingsEdges extends Edges {
    /** COVER is TESTS 0 and 1, and weighs 5; TEST 2 is not needed. */
    private static final String FOUR = "m;gxy,P311,P210,P168";

    private static final int ALL_KINDS = 7, ALL_WAYS = 31;

    ReadingsEdges(Sentences document) {
        super(document);
    }

    @Override
    void ask() {
        reading();
        back();
        kinds();
        ways();
        odds();
        close();
    }

    private void reading() {
        promise(17);
        sentence("A READING: its number.");
        fromText(FOUR);
        for (int r = 1; r <= 8; r++) {
            due(r, "reading", 5);
        }
        due(5, "back", 3);
        due(6, "reading", 5);

        sentence("STATE: there is no PROGRAM;");
        from(Edges::none);
        refuses(STATE, "reading", 0);
        refuses(STATE, "reading", 200);
        // Ahead of OUTSIDE.
        refuses(STATE, "reading", -1);
        refuses(STATE, "reading", 201);

        sentence("OUTSIDE: v (0 .. 200);");
        from(Edges::small);
        within(0, 200, OUTSIDE, "reading", 0, 0);
        // Ahead of FULL.
        from(Edges::most);
        refuses(OUTSIDE, "reading", -1);
        refuses(OUTSIDE, "reading", 201);

        sentence("FULL.");
        from(Edges::most);
        refuses(FULL, "reading", 0);
        refuses(FULL, "reading", 4);
        refuses(FULL, "reading", 200);
        due(7, "back", 1);
        due(8, "reading", 4);
        due(FULL, "reading", 4);
    }

    private void back() {
        promise(18);
        sentence("The last n READINGS (0 .. as many as there are) are taken back: how many are left.");
        fromText(FOUR);
        due(0, "back", 0);
        due(1, "reading", 5);
        due(2, "reading", 6);
        due(3, "reading", 7);
        due(3, "back", 0);
        due(0, "kinds", 0);
        due(2, "back", 1);
        due(0, "kinds", 0);
        due(1, "back", 1);
        due(1, "kinds", 0);
        due(0, "back", 1);
        due(ALL_KINDS, "kinds", 0);
        from(Edges::most);
        due(0, "back", 8);
        due(0, "many", 5);
        from(Edges::none);
        due(0, "back", 0);

        sentence("OUTSIDE.");
        from(Edges::small);
        within(0, 1, OUTSIDE, "back", 0, 0);
        from(Edges::most);
        within(0, 8, OUTSIDE, "back", 0, 0);
        from(Edges::none);
        refuses(OUTSIDE, "back", 1);
        refuses(OUTSIDE, "back", -1);
    }

    private void kinds() {
        promise(19);
        sentence("KINDS, as a set.");
        fromText(FOUR);
        for (int t = 0; t <= 2; t++) {
            due(ALL_KINDS, "kinds", t);
        }
        // TEST 0 weighs 3, 4 or 6, TEST 1 2, 3 or 4.
        dueKinds(5, 1, 1, ALL_KINDS);
        dueKinds(6, 2, 2, 0);
        dueKinds(7, 0, 4, 0);
        dueKinds(8, 4, 0, 0);
        dueKinds(0, 0, 0, 0);
        dueKinds(200, 0, 0, 0);

        sentence("UNKNOWN.");
        from(Edges::most);
        within(0, 6, UNKNOWN, "kinds", 0, 0);
        from(Edges::small);
        within(0, 2, UNKNOWN, "kinds", 0, 0);
        from(Edges::none);
        refuses(UNKNOWN, "kinds", 0);
    }

    private void dueKinds(int weight, int... sets) {
        fromText(FOUR);
        due(1, "reading", weight);
        for (int t = 0; t < sets.length; t++) {
            due(sets[t], "kinds", t);
            due(0, "ofTest", t, 0);
        }
    }

    private void ways() {
        promise(20);
        sentence("WAYS, as a set.");
        // By g TESTS 0 and 1 are needed, by a and l TEST 2, by s TEST 0, by m TESTS 1 and 2.
        dueWays(5, 8);
        dueWays(1, 1 + 16);
        dueWays(3, 2 + 4);
        dueWays(0, 0);
        dueWays(200, 0);
        fromText(FOUR);
        due(ALL_WAYS, "ways", 0);
        // At 0 0 no WAY can be told from another one.
        fromText("m;gxy;a0y,P300");
        due(1, "reading", 0);
        due(ALL_WAYS, "ways", 0);
        due(ALL_WAYS, "ways", 1);

        sentence("UNKNOWN.");
        from(Edges::most);
        within(0, 4, UNKNOWN, "ways", 0, 0);
        from(Edges::small);
        within(0, 1, UNKNOWN, "ways", 0, 0);
        from(Edges::none);
        refuses(UNKNOWN, "ways", 0);
    }

    private void dueWays(int weight, int set) {
        fromText(FOUR);
        due(1, "reading", weight);
        due(set, "ways", 0);
        due(3, "ofStep", 0, 0);
    }

    private void odds() {
        promise(21);
        sentence("ODDS of a MUTANT (which 0 the upper, 1 the lower number).");
        fromText("m;axy,P100");
        long[][] shares = {{4, 5}, {24, 25}, {81, 100}, {99, 100}};
        for (int m = 0; m < 4; m++) {
            due(shares[m][0], "odds", m, 0);
            due(shares[m][1], "odds", m, 1);
        }
        // It differs at 9 9 alone.
        fromText("m;lyx;m00;s10;s02;g13,P100");
        due(1, "odds", 11, 0);
        due(100, "odds", 11, 1);
        fromText("m;gxx,P100");
        due(0, "odds", 3, 0);
        due(1, "odds", 3, 1);

        sentence("LOST: UNKNOWN;");
        from(Edges::most);
        within(0, 19, LOST, "odds", 0, 0, 0);
        from(Edges::small);
        within(0, 7, LOST, "odds", 0, 0, 1);
        refuses(LOST, "odds", 8, 2);
        from(Edges::none);
        refuses(LOST, "odds", 0, 0);

        sentence("OUTSIDE.");
        from(Edges::small);
        within(0, 1, LOST, "odds", 1, 0, 0);
        within(0, 1, LOST, "odds", 1, 7, 0);
    }
}
