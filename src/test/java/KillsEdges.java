/** Sentences of the Terms, parts ==== 2 to ==== 4: KILLED, SUBSUMED, DAYS, COVER, CHOOSING, READINGS. */
final class KillsEdges extends Edges {
    /**
     * MUTANTS are a, s, m, l. What TESTS of it KILL: at 1 1 a, s; at 1 0 m, l; at 6 8 a, l; at 0 1 s, m, l;
     * at 2 2 a, s, m; at 1 2 a, s, l; at 2 6 a, m, l; at 2 3 all; at 0 0 none.
     */
    private static final String GREATER = "m;gxy";

    KillsEdges(Sentences document) {
        super(document);
    }

    @Override
    void ask() {
        killed();
        equal();
        subsumed();
        least();
        hardest();
        days();
        firstWrong();
        cover();
        choosing();
        score();
        readings();
        odds();
        close();
    }

    private void killed() {
        term(10, "A TEST KILLS a MUTANT, if that's OUTPUT for its INPUTS is another one than the PROGRAM's;");
        fromText(GREATER + ",P111,P100");
        int[] states = {2, 2, 0, 0};
        for (int m = 0; m < 4; m++) {
            due(states[m], "state", m, 0);
            due(0, "state", m, 1);
        }
        due(3, "ofTest", 0, 6);
        due(0, "ofTest", 1, 6);

        term(10, "it INFECTS it, if what the STEP itself makes is another figure.");
        // STEP 0 makes 1 at 1 1, but by a 2 and by s 0; STEP 1 makes the lesser one of that and 1.
        fromText("m;gxy;l0x,P111");
        due(1, "state", 0, 0);
        due(2, "state", 1, 0);
        due(0, "state", 2, 0);
        due(0, "state", 3, 0);
        // By a STEP 0 makes 5, not 3, STEP 1 7, not 5, and STEP 2 again 2.
        fromText("m;gxy;a0x;s10;l2x,P123");
        due(1, "state", 0, 0);

        term(32, "A MUTANT is KILLED, if any TEST KILLS it;");
        fromText(GREATER + ",P100,P100,P100,P100,P100,P100,P111");
        due(2, "many", 3);
        due(64, "ofMutant", 0, 2);
        due(11, "aim", 6, 0, 0);
        due(0, "many", 3);
        due(0, "aim", 0, 2, 3);
        due(4, "many", 3);
        due(1, "ofMutant", 3, 2);
    }

    private void equal() {
        term(9, "it is EQUAL, if its OUTPUT is the PROGRAM's for all hundred INPUTS.");
        // MUTANT 11 differs at 9 9 alone; that no TEST asks there does not make it EQUAL.
        fromText("m;lyx;m00;s10;s02;g13,P198");
        due(0, "ofMutant", 11, 3);
        due(0, "ofMutant", 11, 2);
        due(0, "many", 4);
        // One that differs at 9 8 alone, and one at 3 4.
        fromText("m;lyx;s0x;l01;l22;l30,P199");
        due(1, "ofMutant", 14, 4);
        due(0, "ofMutant", 14, 3);
        fromText("m;gxy;gx0;l1x;my2;g30,P199");
        due(1, "ofMutant", 6, 4);
        due(0, "ofMutant", 6, 3);
        fromText("m;sxx;s00,P111");
        for (int m = 0; m < 8; m++) {
            due(1, "ofMutant", m, 3);
        }
        due(8, "many", 4);
        // 0 and x is the greater one of 0 and x for figures, though not for 10 or -1.
        for (String source : new String[] {"x", "y"}) {
            fromText("m;sxx;a0" + source + ",P111");
            due(1, "ofMutant", 6, 3);
            due(1, "many", 4);
        }
    }

    private void subsumed() {
        term(11, "A MUTANT SUBSUMES another one, if it is KILLED, and each TEST that KILLS it KILLS the other one.");
        // a by TESTS 0, 1; s by 0; m by none; l by 1.
        fromText(GREATER + ",P111,P168");
        int[][] wanted = {{1, 0, 0, 0}, {1, 1, 0, 0}, {0, 0, 0, 0}, {1, 0, 0, 1}};
        for (int m = 0; m < 4; m++) {
            for (int other = 0; other < 4; other++) {
                due(wanted[m][other], "subsumes", m, other);
            }
        }
        due(1, "ofMutant", 0, 6);
        due(2, "ofMutant", 1, 6);
        due(0, "ofMutant", 2, 6);
        due(2, "ofMutant", 3, 6);
    }

    private void least() {
        term(9, "It is LEAST, if it is KILLED, and each KILLED MUTANT that SUBSUMES it is KILLED by the same TESTS,"
                + " and has no lesser number.");
        // a by TESTS 0, 1; s by 0; m by none; l by 1.
        dueLeast(",P111,P168", 0, 1, 0, 1);
        // a and s by the same: the first one alone.
        dueLeast(",P111", 1, 0, 0, 0);
        // All by the same.
        dueLeast(",P123,S132", 1, 0, 0, 0);
        // m and l by TEST 0, a and s by TEST 1.
        dueLeast(",P110,P111", 1, 0, 1, 0);
        // s SUBSUMES a, which is ahead of it, and m l, which is behind it.
        dueLeast(",P111,P110,P168", 0, 1, 1, 0);
        dueLeast(",P100", 0, 0, 0, 0);
        dueLeastOfTwenty();
        dueLeastBehindMost();
    }

    private void dueLeastOfTwenty() {
        // STEP 4 alone is the OUTPUT, and all its MUTANTS are KILLED by the same.
        from(() -> withPairs("m;axy;axy;axy;axy;axy,P112"));
        for (int m = 0; m < 20; m++) {
            due(m == 16 ? 1 : 0, "ofMutant", m, 5);
        }
        due(1, "day", 3, 2, 0, 0, 3);
        // MUTANT 8 is KILLED by TEST 1 alone, which KILLS all others but MUTANT 0.
        from(() -> withPairs(MOST));
        for (int m = 0; m < 20; m++) {
            due(m == 0 || m == 8 ? 1 : 0, "ofMutant", m, 5);
        }
        due(2, "day", 3, 2, 0, 0, 3);
    }

    /** What was KILLED of a greater PROGRAM is not seen behind a lesser one. */
    private void dueLeastBehindMost() {
        MutantRows x = told(MOST);
        is("HARDEST of the greater one", x.hardest(), 8);
        is("program of a lesser one", Due.tell(x, GREATER + ",P111,P110,P168"), 4);
        for (int m = 0; m < 4; m++) {
            is("LEAST " + m, x.ofMutant(m, 5), m == 1 || m == 2 ? 1 : 0);
        }
        is("LEAST ones", Due.day(x, 3), 2);
        is("SUBSUMED by MUTANT 1", x.ofMutant(1, 6), 2);
        is("HARDEST", x.hardest(), 1);
    }

    private void dueLeast(String tests, int... least) {
        fromText(GREATER + tests);
        int count = 0;
        for (int m = 0; m < 4; m++) {
            due(least[m], "ofMutant", m, 5);
            count += least[m];
        }
        int all = count;
        from(() -> withPairs(GREATER + tests));
        due(all, "day", 3, 2, 0, 0, 3);
    }

    private void hardest() {
        term(12, "HARDEST: the KILLED MUTANT that the fewest TESTS KILL; of several the least number.");
        dueHardest(",P111,P110,P168", 1);
        dueHardest(",P101,P123", 0);
        dueHardest(",P122,P123", 3);
        dueHardest(",P112,P123", 2);
        dueHardest(",P123", 0);
        dueHardest(",P110", 2);
        dueHardest(",P123".repeat(7), 0);
        dueHardest(",P110".repeat(7), 2);
        dueHardest(",P100", NONE);
        // The last of all twenty.
        fromText("m;axy;axy;axy;axy;mxy,P101,P101,P168");
        due(19, "hardest");
    }

    private void dueHardest(String tests, int want) {
        fromText(GREATER + tests);
        due(want, "hardest");
    }

    private void days() {
        term(13, "A DAY told: a row of pairs, one behind another, from how all is now (nothing is changed):");
        from(() -> withPairs(GREATER + ",P311,P210", 4, 0, 1, 0, 45, 20, 54, 20, 9, 11, 2, 11));
        for (int what = 0; what <= 4; what++) {
            due(answer(changed(), "day", 3, 2, 0, 0, what), "day", 3, 2, 0, 6, what);
        }
        due(1, "day", 3, 2, 0, 6, 10);
        due(1, "day", 3, 2, 0, 6, 11);
        due(NONE, "day", 3, 2, 0, 6, 12);
        due(3, "ofStep", 0, 0);
        due(1, "ofTest", 0, 3);
        due(1, "ofTest", 0, 4);
        due(2, "ofTest", 1, 1);
        due(3, "way", 0, 4);
        due(0, "day", 3, 2, 0, 0, 11);
        due(2, "time", 1, 9);
        due(10, "aim", 1, 7, 8);
        due(7, "day", 3, 2, 0, 0, 11);

        term(13, "a WAY (0 .. 4) and 0 .. 4: of that STEP;");
        // At 3 4: a 7, s 9, m 2, g 4, l 3.
        int[] made = {7, 9, 2, 4, 3};
        for (int way = 0; way <= 4; way++) {
            for (int k = 0; k <= 4; k++) {
                int to = way;
                int of = k;
                from(() -> withPairs("m;gxy;gxy;gxy;gxy;gxy,P134", to, of));
                due(k == 4 ? made[way] : 4, "day", 3, 2, 0, 1, 10);
                // As the last STEP it is the OUTPUT.
                from(() -> withPairs("m" + ";gxy".repeat(of + 1) + ",P134", to, of));
                due(made[way], "day", 3, 2, 0, 1, 10);
            }
        }

        term(13, "a TIME (1 .. 9) and 10 .. 16: of the TEST that is 10 less;");
        for (int t = 0; t <= 6; t++) {
            String ahead = GREATER + ",P900".repeat(t) + ",D523" + ",P900".repeat(6 - t);
            for (int time = 1; time <= 9; time++) {
                int to = time;
                int of = 10 + t;
                from(() -> withPairs(ahead, to, of));
                due(2 * time, "day", 3, 2, 0, 1, 4);
                due(10, "day", 3, 2, 0, 0, 4);
            }
        }

        term(13, "10 times x and y (0 .. 99) and 20 .. 26: INPUTS of the TEST that is 20 less.");
        for (int t = 0; t <= 6; t++) {
            for (int xy : new int[] {0, 9, 10, 37, 90, 99}) {
                int of = 20 + t;
                from(() -> withPairs("m;axx;a0y" + ",P511".repeat(7), xy, of));
                due((2 * (xy / 10) + xy % 10) % 10, "day", 3, 2, 0, 1, 10 + t);
                due(3, "day", 3, 2, 0, 1, t == 6 ? 10 : 16);
            }
        }
    }

    /** What the DAY of the first term above makes, told by calls. */
    private static MutantRows changed() {
        MutantRows x = withPairs(GREATER + ",P311,P210");
        x.way(0, 1);
        x.aim(0, 5, 4);
        x.time(1, 2);
        return x;
    }

    private void firstWrong() {
        term(13, "FIRST WRONG: the first act that can't be (there is no such STEP, TEST).");
        String four = "m;axy;axy;axy;axy" + ",P112".repeat(6);
        dueWrong(NONE, four, 0, 3, 1, 15, 0, 25);
        dueWrong(0, four, 0, 4, 1, 16, 0, 26);
        dueWrong(0, four, 1, 16);
        dueWrong(0, four, 0, 26);
        dueWrong(1, four, 0, 3, 0, 4, 0, 3);
        dueWrong(2, four, 0, 3, 9, 15, 9, 16);
        dueWrong(3, four, 0, 3, 9, 15, 99, 25, 99, 26);
        dueWrong(NONE, MOST, 4, 4, 9, 16, 99, 26);
        dueWrong(0, "m;axy,P112", 0, 1);
        dueWrong(0, "m;axy,P112", 1, 11);
        dueWrong(0, "m;axy,P112", 0, 21);
        dueWrong(NONE, "m;axy,P112");
    }

    private void dueWrong(int want, String text, int... cells) {
        from(() -> withPairs(text, cells));
        due(want, "day", 3, 2, 0, cells.length / 2, 1);
        if (want != NONE) {
            due(-100 - want, "day", 3, 2, 0, cells.length / 2, 0);
        }
    }

    private void cover() {
        term(14, "COVER: the set of TESTS that together KILL all MUTANTS that are KILLED,"
                + " and have the least WEIGHT together;");
        // One that KILLS all against two that do so together: 5, 4 or 6 against 5.
        dueCover(3, 5, ",P311,P210,P623");
        dueCover(4, 4, ",P311,P210,P423");
        // WEIGHT, not TIME: S4 weighs 5, D2 4, D3 6.
        dueCover(4, 4, ",P311,P210,D223");
        dueCover(3, 5, ",P311,P210,D323");
        dueCover(2, 1, ",P923,P123,S123,D123");
        // l is KILLED by no TEST: none is asked to KILL it.
        dueCover(1, 3, ",P322,P400");
        dueCover(0, 0, ",P100,P100");

        term(14, "of several the least set.");
        dueCover(3, 5, ",P311,P210,P523");
        dueCover(1, 5, ",P523,P311,P210");
        dueCover(2, 5, ",P311,P523,P210");
        dueCover(1, 2, ",P223,S123,D123");
        dueCover(1, 2, ",D123,S123,P223");
        dueCover(1, 1, ",P123".repeat(7));
        // TESTS 0 and 2, 1 and 2, 0 and 3, 1 and 3.
        dueCover(5, 2, ",P111,P111,P110,P110");
    }

    private void dueCover(int set, int weight, String tests) {
        fromText(GREATER + tests);
        due(set, "cover", 0);
        due(weight, "cover", 1);
    }

    private void choosing() {
        term(15, "CHOOSING by a MANNER: as long as some KILLED MUTANT is KILLED by no TEST that was chosen:");
        for (int manner = 0; manner <= 2; manner++) {
            dueChosen(manner, ",P123,P111,P110", 0);
            dueChosen(manner, ",P111,P110,P111", 0, 1);
            // m and l are KILLED by none, and nothing is chosen for them.
            dueChosen(manner, ",P111,P111", 0);
            dueChosen(manner, ",P100,P100");
        }

        term(15, "of the TESTS that KILL such ones the best one is chosen:");
        for (int manner = 0; manner <= 2; manner++) {
            // TEST 0 KILLS none, TEST 2 none that TEST 1 did not KILL.
            dueChosen(manner, ",P100,P111,P111,S910", 1, 3);
        }

        term(15, "by MANNER 0: that KILLS the most of these;");
        dueChosen(0, ",P111,P912,P123", 2);
        dueChosen(0, ",P111,P912,P110", 1, 2);
        // Behind TEST 0 m and l are left, of which TEST 1 KILLS one and TEST 2 both.
        dueChosen(0, ",P911,P168,D910", 0, 2);

        term(15, "1: the lightest one;");
        dueChosen(1, ",P923,P311,P210", 2, 1);
        dueChosen(1, ",P323,P211,P110", 2, 1);
        // WEIGHTS 4, 3, 2: TIME would choose TEST 0 first.
        dueChosen(1, ",D211,S210,P223", 2);
        dueChosen(1, ",D211,S211,P410", 1, 2);

        term(15, "2: that KILLS the most of these by WEIGHT (divided by it);");
        // 2 by 3 is less than 3 by 4: whole numbers would not tell that.
        dueChosen(2, ",P311,P412", 1);
        // 3 by 2 is less than 2 by 1; then s and m are left, 2 by 2 and 1 by 9.
        dueChosen(2, ",S122,P168,P910", 1, 0);
        dueChosen(2, ",D911,D923", 1);
        dueChosen(2, ",P811,D923", 0, 1);
        dueChosen(2, ",P911,D923", 0, 1);

        term(15, "of several always the first.");
        for (int manner = 0; manner <= 2; manner++) {
            dueChosen(manner, ",P100,P223,P223,P223", 1);
            dueChosen(manner, ",P111,P110", 0, 1);
            dueChosen(manner, ",P110,P111", 0, 1);
        }
        // 2 by 2 and 4 by 4; three of the same WEIGHT.
        dueChosen(2, ",P211,P423", 0, 1);
        dueChosen(1, ",P223,S123,D123", 0);
    }

    private void dueChosen(int manner, String tests, int... chosen) {
        fromText(GREATER + tests);
        int set = 0;
        for (int k = 0; k <= 6; k++) {
            due(k < chosen.length ? chosen[k] : NONE, "choose", manner, 10 + k);
            set |= k < chosen.length ? 1 << chosen[k] : 0;
        }
        due(set, "choose", manner, 0);
    }

    private void score() {
        term(16, "SCORE: how many MUTANTS are KILLED, of all that are not EQUAL");
        dueScore("m;gxx,P111", 2, 3);
        dueScore("m;gxx;s00,P111", 1, 1);
        dueScore("m;gxy,P111", 1, 2);
        dueScore("m;gxy,P100", 0, 1);
        dueScore("m;gxy,P123", 1, 1);
        // One that differs at 9 9 alone is not EQUAL: 16 of 20, and all.
        dueScore("m;lyx;m00;s10;s02;g13,P198", 4, 5);
        dueScore("m;lyx;m00;s10;s02;g13,P199,P198", 1, 1);

        // All but MUTANT 5 are EQUAL, which differs where x is 1 .. 4.
        dueScore("m;sxx;l0x;l1x;s21;l13,P160,P110", 1, 1);
        dueScore("m;sxx;l0x;l1x;s21;l13,P160,P150", 0, 1);

        term(16, "(0 and 1, if all are).");
        dueScore("m;sxx;s00,P111", 0, 1);
        dueScore("m;sxx;s00;s11,P100,P199", 0, 1);
    }

    private void dueScore(String text, long upper, long lower) {
        fromText(text);
        due(upper, "score", 0);
        due(lower, "score", 1);
    }

    private void readings() {
        term(17, "READINGS, 8 at most, numbered by how many there are:");
        fromText(GREATER + ",P311,P210,P168");
        for (int r = 1; r <= 8; r++) {
            due(r, "reading", 25 * r);
            due(r, "many", 5);
        }
        due(FULL, "reading", 5);
        due(8, "many", 5);

        term(17, "COVER weighs v together.");
        for (int v = 0; v <= 200; v++) {
            fromText(GREATER + ",P311,P210,P168");
            due(1, "reading", v);
            // TEST 0 as a PLAIN, SLOW, DOUBLE one makes it 5, 6, 8.
            due(v == 5 ? 1 : v == 6 ? 2 : v == 8 ? 4 : 0, "kinds", 0);
        }

        term(19, "All that follows: in place of what it is alone, by which all READINGS are so:");
        // TEST 0 as a SLOW one makes it 6, TEST 1 too, both together 7.
        fromText(GREATER + ",P311,P210,P168");
        due(1, "reading", 7);
        due(0, "kinds", 0);
        due(4, "kinds", 1);
        due(0, "back", 1);
        due(1, "reading", 6);
        due(2, "kinds", 0);
        due(2, "kinds", 1);
        due(0, "ofTest", 0, 0);
        due(0, "ofTest", 1, 0);
        due(2, "reading", 6);
        due(2, "kinds", 0);
        // One of eight that is not so is enough, whichever it is.
        for (int other = 1; other <= 8; other++) {
            fromText(GREATER + ",P311,P210,P168");
            for (int r = 1; r <= 8; r++) {
                due(r, "reading", r == other ? 6 : 5);
            }
            due(0, "kinds", 0);
            due(0, "ways", 0);
            due(other - 1, "back", 9 - other);
            due(other == 1 ? 7 : 1, "kinds", 0);
            due(other == 1 ? 31 : 8, "ways", 0);
        }

        term(19, "KINDS of a TEST: 0 .. 2;");
        fromText(GREATER + ",P100,S123,D900,P911,P911,P911,D910");
        for (int t = 0; t <= 6; t++) {
            due(7, "kinds", t);
        }
        // Of TIME 1 a SLOW and a DOUBLE one weigh the same.
        due(1, "reading", 2);
        for (int t = 0; t <= 6; t++) {
            due(t == 1 ? 2 + 4 : 7, "kinds", t);
        }

        term(20, "WAYS of a STEP: 0 .. 4; as sets.");
        // g leaves 5, a and l leave 1, s and m leave 3.
        int[] sets = {0, 1 + 16, 0, 2 + 4, 0, 8, 0};
        for (int v = 0; v < sets.length; v++) {
            fromText(GREATER + ",P311,P210,P168");
            due(1, "reading", v);
            due(sets[v], "ways", 0);
            due(3, "ofStep", 0, 0);
        }
        // Of the last of five STEPS; the others are not seen, whatever their WAY.
        fromText("m;axy;axy;axy;axy;gxy,P311,P210,P168");
        due(1, "reading", 5);
        for (int k = 0; k <= 4; k++) {
            due(k == 4 ? 8 : 31, "ways", k);
        }
    }

    private void odds() {
        term(21, "ODDS of a MUTANT: of all hundred INPUTS, all alike, the share of those for which its OUTPUT is"
                + " another one than the PROGRAM's.");
        // g and a are the same where a figure is 0 (19 of 100), s and l differ where x and y do.
        fromText(GREATER + ",P100");
        long[][] shares = {{81, 100}, {17, 20}, {19, 25}, {9, 10}};
        for (int m = 0; m < 4; m++) {
            due(shares[m][0], "odds", m, 0);
            due(shares[m][1], "odds", m, 1);
        }
        // At 9 9 alone; for none.
        fromText("m;lyx;m00;s10;s02;g13,P100");
        due(1, "odds", 11, 0);
        due(100, "odds", 11, 1);
        fromText("m;sxx;s00,P111");
        due(0, "odds", 7, 0);
        due(1, "odds", 7, 1);
    }
}
