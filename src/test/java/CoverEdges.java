/** Sentences of promises 14 to 16: the lightest TESTS, TESTS chosen one by one, the SCORE. */
final class CoverEdges extends Edges {
    /** Each of seven TESTS KILLS a MUTANT that no other one KILLS; 15 are KILLED, 4 of 20 are EQUAL. */
    private static final String SEVEN = "m;mxx;g0y;ayy;ax1;g3x,P166,P179,P168,P177,P171,P160,P140";
    private static final String SEVEN_HEAVY = "m;mxx;g0y;ayy;ax1;g3x,D966,D979,D968,D977,D971,D960,D940";

    /** TEST 0 KILLS MUTANTS 0 and 1, TEST 1 2 and 3, TEST 2 0 and 3. */
    private static final String FOUR = "m;gxy,P311,P210,P168";

    private static final String NONE_KILLED = "m;gxy,P300,S200,D100";
    private static final String ALL_EQUAL = "m;sxx;s00,P111,S222";

    CoverEdges(Sentences document) {
        super(document);
    }

    @Override
    void ask() {
        cover();
        choose();
        chooseRefusals();
        score();
        close();
    }

    private void cover() {
        promise(14);
        sentence("COVER: the set (what 0), what it weighs (1), how many TESTS (2).");
        dueCover(SEVEN, 127, 7, 7);
        dueCover(SEVEN_HEAVY, 127, 126, 7);
        dueCover(FOUR, 3, 5, 2);
        dueCover("m;gxy,P100,P100,P100,P100,P100,P100,D911", 64, 18, 1);
        dueCover(NONE_KILLED, 0, 0, 0);
        dueCover(ALL_EQUAL, 0, 0, 0);

        sentence("OUTSIDE;");
        from(Edges::small);
        within(0, 2, OUTSIDE, "cover", 0, 0);
        from(Edges::none);
        refuses(OUTSIDE, "cover", 3);
        refuses(OUTSIDE, "cover", -1);

        sentence("STATE: there is no PROGRAM.");
        from(Edges::none);
        for (int what = 0; what <= 2; what++) {
            refuses(STATE, "cover", what);
        }
    }

    private void dueCover(String text, int set, int weight, int tests) {
        fromText(text);
        due(set, "cover", 0);
        due(weight, "cover", 1);
        due(tests, "cover", 2);
    }

    private void choose() {
        promise(15);
        sentence("CHOOSING by a MANNER (0 .. 2): the set (what 0), what it weighs (1),");
        int[][] wanted = {{3, 5}, {7, 6}, {7, 6}};
        fromText(FOUR);
        for (int manner = 0; manner <= 2; manner++) {
            due(wanted[manner][0], "choose", manner, 0);
            due(wanted[manner][1], "choose", manner, 1);
        }
        for (int manner = 0; manner <= 2; manner++) {
            fromText(SEVEN_HEAVY);
            due(127, "choose", manner, 0);
            due(126, "choose", manner, 1);
            fromText(NONE_KILLED);
            due(0, "choose", manner, 0);
            due(0, "choose", manner, 1);
            fromText(ALL_EQUAL);
            due(0, "choose", manner, 0);
            due(0, "choose", manner, 1);
        }

        sentence("the TEST that is chosen k-th (10 and k, from 0 on; NONE: there are not so many).");
        dueChosen(FOUR, 0, 0, 1);
        dueChosen(FOUR, 1, 2, 1, 0);
        dueChosen(FOUR, 2, 2, 1, 0);
        dueChosen(SEVEN, 0, 4, 6, 0, 1, 2, 3, 5);
        dueChosen(SEVEN, 1, 0, 1, 2, 3, 4, 5, 6);
        dueChosen(SEVEN, 2, 4, 6, 0, 1, 2, 3, 5);
        for (int manner = 0; manner <= 2; manner++) {
            dueChosen(NONE_KILLED, manner);
        }
    }

    private void dueChosen(String text, int manner, int... tests) {
        fromText(text);
        for (int k = 0; k <= 6; k++) {
            due(k < tests.length ? tests[k] : NONE, "choose", manner, 10 + k);
        }
    }

    private void chooseRefusals() {
        promise(15);
        sentence("OUTSIDE: manner, what (0, 1, 10 .. 16);");
        from(Edges::small);
        within(0, 2, OUTSIDE, "choose", 0, 0, 0);
        within(0, 2, OUTSIDE, "choose", 0, 0, 16);
        within(0, 1, OUTSIDE, "choose", 1, 0, 0);
        within(10, 16, OUTSIDE, "choose", 1, 2, 0);
        from(Edges::none);
        refuses(OUTSIDE, "choose", 3, 0);
        refuses(OUTSIDE, "choose", 0, 2);
        refuses(OUTSIDE, "choose", 0, 9);
        refuses(OUTSIDE, "choose", 0, 17);

        sentence("STATE: there is no PROGRAM.");
        from(Edges::none);
        for (int manner = 0; manner <= 2; manner++) {
            refuses(STATE, "choose", manner, 0);
            refuses(STATE, "choose", manner, 1);
            refuses(STATE, "choose", manner, 10);
            refuses(STATE, "choose", manner, 16);
        }
    }

    private void score() {
        promise(16);
        sentence("SCORE (which 0 the upper, 1 the lower number).");
        dueScore(SEVEN, 15, 16);
        dueScore(FOUR, 1, 1);
        dueScore("m;gxy,P111", 1, 2);
        dueScore("m;gxy,P101", 3, 4);
        dueScore(NONE_KILLED, 0, 1);
        dueScore(ALL_EQUAL, 0, 1);

        sentence("LOST: OUTSIDE;");
        from(Edges::small);
        within(0, 1, LOST, "score", 0, 0);
        from(Edges::none);
        refuses(LOST, "score", 2);
        refuses(LOST, "score", -1);

        sentence("STATE: there is no PROGRAM.");
        from(Edges::none);
        refuses(LOST, "score", 0);
        refuses(LOST, "score", 1);
    }

    private void dueScore(String text, long upper, long lower) {
        fromText(text);
        due(upper, "score", 0);
        due(lower, "score", 1);
    }
}
