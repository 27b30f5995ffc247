/** Promises 9 to 13: MUTANTS one by one, which SUBSUMES which, DAYS. */
public final class MutantsTest {
    private static final Due due = new Due("MutantsTest");

    /** All its MUTANTS are EQUAL, since a figure less itself is 0. */
    private static final String ALL_EQUAL = "m;sxx;s00,P111,S234";

    public static void main(String[] args) {
        ofOneStep();
        numbersBySteps();
        equalOnes();
        subsumed();
        leastOfTheSame();
        mostMutantsAndTests();
        smallerAnew();
        noneKilled();
        refusals();
        daysThatCanBe();
        daysThatCannot();
        dayRefusals();
        dayFaults();
        due.end();
    }

    private static void ofOneStep() {
        MutantRows x = Due.told("m;axy,P312,S100,D150");
        int[] ways = {1, 2, 3, 4};
        // x and y 1 2, 0 0, 5 0: a makes 3, 0, 5; s 9, 0, 5; m 2, 0, 0; g 2, 0, 5; l 1, 0, 0.
        int[] killers = {1, 5, 1, 5};
        int[] differences = {80, 96, 81, 99};
        int[] least = {1, 0, 0, 0};
        int[] subsumed = {4, 2, 4, 2};
        for (int m = 0; m < 4; m++) {
            String name = "MUTANT " + m + ", ";
            due.is(name + "STEP", x.ofMutant(m, 0), 0);
            due.is(name + "WAY", x.ofMutant(m, 1), ways[m]);
            due.is(name + "TESTS", x.ofMutant(m, 2), killers[m]);
            due.is(name + "EQUAL", x.ofMutant(m, 3), 0);
            due.is(name + "differences", x.ofMutant(m, 4), differences[m]);
            due.is(name + "LEAST", x.ofMutant(m, 5), least[m]);
            due.is(name + "SUBSUMED", x.ofMutant(m, 6), subsumed[m]);
            for (int t = 0; t < 3; t++) {
                due.is(name + "state", x.state(m, t), (killers[m] >> t & 1) * 2);
            }
        }
        due.is("hardest", x.hardest(), 0);
    }

    private static void numbersBySteps() {
        MutantRows x = Due.told("m;axy;s0x;m1y;g21;l03,P123");
        int m = 0;
        for (int k = 0; k < 5; k++) {
            for (int way = 0; way < 5; way++) {
                if (way != k) {
                    due.is("STEP of MUTANT " + m, x.ofMutant(m, 0), k);
                    due.is("WAY of MUTANT " + m, x.ofMutant(m, 1), way);
                    m++;
                }
            }
        }
        x.way(0, 2);
        due.is("WAY of MUTANT 1, anew", x.ofMutant(1, 1), 1);
        due.is("WAY of MUTANT 2, anew", x.ofMutant(2, 1), 3);
    }

    private static void equalOnes() {
        MutantRows x = Due.told("m;gxx,P100,P122");
        int[] differences = {90, 90, 60, 0};
        for (int m = 0; m < 4; m++) {
            due.is("differences of MUTANT " + m, x.ofMutant(m, 4), differences[m]);
            due.is("EQUAL " + m, x.ofMutant(m, 3), m == 3 ? 1 : 0);
        }
        due.is("EQUAL ones", x.many(4), 1);
        due.is("g and l differ where x and y do", Due.told("m;gxy,P100").many(4), 0);
        // 0 and x is the greater of 0 and x as long as x is a figure.
        due.is("EQUAL for figures", Due.told("m;sxx;a0x,P111").many(4), 1);
        MutantRows all = Due.told(ALL_EQUAL);
        due.is("EQUAL ones, all", all.many(4), 8);
        due.is("KILLED ones", all.many(3), 0);
        // The first STEP makes 0; a 2, m 1, g 1, l 1 instead: another figure, but no other OUTPUT.
        for (int m = 0; m < 4; m++) {
            due.is("INFECTED alone", all.state(m, 0), 1);
            due.is("nothing", all.state(m + 4, 0), 0);
        }
    }

    private static void subsumed() {
        MutantRows x = Due.told("m;axy,P312,S100,D150");
        int[][] wanted = {{1, 1, 1, 1}, {0, 1, 0, 1}, {1, 1, 1, 1}, {0, 1, 0, 1}};
        for (int m = 0; m < 4; m++) {
            for (int other = 0; other < 4; other++) {
                due.is("subsumes(" + m + ", " + other + ")", x.subsumes(m, other), wanted[m][other]);
            }
        }
        MutantRows equal = Due.told("m;gxx,P122");
        due.is("one that is not KILLED", equal.subsumes(3, 3), 0);
        due.is("one that is not KILLED, of another", equal.subsumes(3, 0), 0);
        due.is("by one that is KILLED", equal.subsumes(0, 3), 0);
        due.is("how many of one that is not KILLED", equal.ofMutant(3, 6), 0);
        due.is("LEAST of one that is not KILLED", equal.ofMutant(3, 5), 0);
    }

    private static void leastOfTheSame() {
        // x and y 1 0: g makes 1; a 1, s 1, m 0, l 0. x and y 0 1: g makes 1; a 1, s 9, m 0, l 0.
        MutantRows x = Due.told("m;gxy,P110,P101");
        int[] killers = {0, 2, 3, 3};
        int[] least = {0, 1, 0, 0};
        for (int m = 0; m < 4; m++) {
            due.is("TESTS that KILL " + m, x.ofMutant(m, 2), killers[m]);
            due.is("LEAST " + m, x.ofMutant(m, 5), least[m]);
        }
        x.aim(1, 1, 0);
        int[] same = {0, 0, 1, 0};
        for (int m = 0; m < 4; m++) {
            due.is("LEAST of the same " + m, x.ofMutant(m, 5), same[m]);
        }
        due.is("hardest of the same", x.hardest(), 2);
        due.is("hardest that seven TESTS KILL", Due.told("m;axy" + ",P112".repeat(7)).hardest(), 0);
    }

    private static void mostMutantsAndTests() {
        // The last STEP alone is the OUTPUT: what the others make is seen by nobody.
        MutantRows x = Due.told("m;axy;axy;axy;axy;axy" + ",P112".repeat(7));
        for (int m = 0; m < 20; m++) {
            boolean last = m >= 16;
            due.is("state of MUTANT " + m, x.state(m, 6), last ? 2 : 1);
            due.is("TESTS that KILL MUTANT " + m, x.ofMutant(m, 2), last ? 127 : 0);
            due.is("EQUAL " + m, x.ofMutant(m, 3), last ? 0 : 1);
            due.is("LEAST " + m, x.ofMutant(m, 5), m == 16 ? 1 : 0);
            due.is("SUBSUMED by " + m, x.ofMutant(m, 6), last ? 4 : 0);
        }
        due.is("hardest", x.hardest(), 16);
        due.is("LEAST ones", Due.day(x, 3), 1);
        due.is("COVER", x.cover(0), 1);
        due.is("COVER's WEIGHT", x.cover(1), 1);
        for (int manner = 0; manner <= 2; manner++) {
            due.is("TESTS that are chosen", x.choose(manner, 0), 1);
        }
        due.is("MUTANTS that the last TEST KILLS", x.ofTest(6, 6), 15 << 16);
        due.is("no MUTANT 20", x.ofMutant(20, 0), MutantRows.UNKNOWN);
    }

    /** What a greater PROGRAM left behind must not be seen. */
    private static void smallerAnew() {
        MutantRows x = Due.told("m;axy;s0x;m1y;g21;l30,P112,S234,D356,P478,S590,D613,P735");
        x.hardest();
        Due.tell(x, "m;axy,P312,S150");
        due.is("TESTS that KILL MUTANT 0", x.ofMutant(0, 2), 1);
        due.is("TESTS that KILL MUTANT 1", x.ofMutant(1, 2), 3);
        due.is("SUBSUMED by MUTANT 0", x.ofMutant(0, 6), 4);
        due.is("LEAST", x.ofMutant(0, 5), 1);
        due.is("LEAST ones", Due.day(x, 3), 1);
        due.is("hardest", x.hardest(), 0);
        due.is("COVER", x.cover(0), 1);
        due.is("COVER's WEIGHT", x.cover(1), 3);
        for (int manner = 0; manner <= 2; manner++) {
            due.is("the first TEST", x.choose(manner, 10), manner == 1 ? 1 : 0);
        }
    }

    private static void noneKilled() {
        MutantRows x = Due.told("m;gxx,P100");
        due.is("hardest", x.hardest(), MutantRows.NONE);
        due.is("KILLED ones", x.many(3), 0);
        due.is("EQUAL ones", x.many(4), 1);
        due.is("LEAST ones", Due.day(x, 3), 0);
        due.is("COVER's WEIGHT", Due.day(x, 4), 0);
    }

    private static void refusals() {
        MutantRows x = Due.told("m;axy,P312");
        due.is("ofMutant(-1, 9)", x.ofMutant(-1, 9), MutantRows.UNKNOWN);
        due.is("ofMutant(4, 9)", x.ofMutant(4, 9), MutantRows.UNKNOWN);
        due.is("ofMutant(3, 7)", x.ofMutant(3, 7), MutantRows.OUTSIDE);
        due.is("ofMutant(3, -1)", x.ofMutant(3, -1), MutantRows.OUTSIDE);
        due.is("state(-1, 0)", x.state(-1, 0), MutantRows.UNKNOWN);
        due.is("state(4, 0)", x.state(4, 0), MutantRows.UNKNOWN);
        due.is("state(0, -1)", x.state(0, -1), MutantRows.UNKNOWN);
        due.is("state(0, 1)", x.state(0, 1), MutantRows.UNKNOWN);
        due.is("subsumes(-1, 0)", x.subsumes(-1, 0), MutantRows.UNKNOWN);
        due.is("subsumes(4, 0)", x.subsumes(4, 0), MutantRows.UNKNOWN);
        due.is("subsumes(0, -1)", x.subsumes(0, -1), MutantRows.UNKNOWN);
        due.is("subsumes(0, 4)", x.subsumes(0, 4), MutantRows.UNKNOWN);
    }

    private static void daysThatCanBe() {
        MutantRows x = Due.told("m;axy,P312,S100");
        due.is("KILLED on a DAY without acts", Due.day(x, 0), 4);
        due.is("COVER's WEIGHT", Due.day(x, 4), 3);
        due.is("COVER's WEIGHT by TIME 9", Due.day(x, 4, 9, 10), 9);
        due.is("the latter TIME counts", Due.day(x, 4, 9, 10, 1, 10), 1);
        due.is("KILLED by INPUTS 0 0", Due.day(x, 0, 0, 20), 0);
        due.is("OUTPUT of TEST 0 by INPUTS 9 8", Due.day(x, 10, 98, 20), 7);
        due.is("OUTPUT of TEST 1 by INPUTS 9 8", Due.day(x, 11, 98, 20), 0);
        due.is("OUTPUT by WAY s and INPUTS 2 7", Due.day(x, 11, 1, 0, 27, 21), 5);
        due.is("no TEST 2", Due.day(x, 12), MutantRows.NONE);
        due.is("no TEST 6", Due.day(x, 16, 98, 20), MutantRows.NONE);
        due.is("no FIRST WRONG", Due.day(x, 1, 98, 20), MutantRows.NONE);
        x.way(0, 4);
        x.aim(1, 9, 7);
        due.is("from how all is now", Due.day(x, 11), 7);
        x.way(0, 0);
        x.aim(1, 0, 0);
        Due.fill(x, 2, 0, 9, 10, 8, 10);
        due.is("a DAY of bytes", x.day(2, 0, 2, 1, 4), 8);
        due.is("EQUAL ones", Due.day(Due.told("m;gxx,P122"), 2), 1);
        due.is("EQUAL ones by WAY s", Due.day(Due.told("m;gxx,P122"), 2, 1, 0), 0);
        due.is("LEAST ones", Due.day(Due.told("m;gxy,P210,P201"), 3), 1);
        // At 0 1 s, m, l are KILLED, at 1 5 m, g, l: s by TEST 0 alone, g by TEST 1 alone.
        due.is("LEAST ones", Due.day(Due.told("m;axy,P301,P315"), 3), 2);
        due.is("nothing is changed", x.ofStep(0, 0), 0);
        due.is("TIME is not changed", x.ofTest(0, 1), 3);
        due.is("INPUTS are not changed", x.aim(0, 1, 2), 12);
    }

    private static void daysThatCannot() {
        MutantRows x = Due.told("m;axy,P312,S100");
        int[][] wrongs = {{0, 1}, {4, 4}, {1, 12}, {9, 16}, {0, 22}, {99, 26}};
        for (int[] wrong : wrongs) {
            for (int what : new int[] {0, 2, 3, 4, 10, 16}) {
                due.is("an act that can't be", Due.day(x, what, wrong), -100);
                due.is("behind two", Due.day(x, what, 1, 0, 5, 10, wrong[0], wrong[1], 0, 4), -102);
            }
            due.is("FIRST WRONG", Due.day(x, 1, 1, 0, wrong[0], wrong[1], 0, 4), 1);
        }
        due.is("OUTSIDE behind a wrong act", Due.day(x, 1, 0, 1, 5, 0), MutantRows.OUTSIDE);
    }

    private static void dayRefusals() {
        MutantRows x = Due.told("m;axy;m0x;gxy;lxy;sxy,P111,P111,P111,P111,P111,P111,P111");
        int[][] outside = {
            {5, 0}, {-1, 4}, {0, 5}, {0, -1}, {0, 9}, {0, 10}, {10, 16}, {1, 17}, {1, 19}, {-1, 20}, {100, 26}, {1, 27},
        };
        for (int[] pair : outside) {
            due.is("a pair " + pair[0] + " " + pair[1], Due.day(x, 0, pair), MutantRows.OUTSIDE);
            due.is("behind others", Due.day(x, 1, 0, 4, 9, 16, 99, 26, pair[0], pair[1]), MutantRows.OUTSIDE);
        }
        due.is("the greatest", Due.day(x, 1, 4, 4, 9, 16, 99, 26), MutantRows.NONE);
        due.is("the least", Due.day(x, 1, 0, 0, 1, 10, 0, 20), MutantRows.NONE);
        due.is("SHEET ahead of LANE", x.day(4, 3, 0, 0, 0), MutantRows.UNKNOWN);
        due.is("SHEET -1", x.day(-1, 0, 0, 0, 0), MutantRows.UNKNOWN);
        due.faults("LANE ahead of CAST", x, x.day(0, 3, 0, 0, 0), MutantRows.OUTSIDE, 0);
        due.is("LANE -1", x.day(0, -1, 0, 0, 0), MutantRows.OUTSIDE);
        due.is("n -1", x.day(0, 0, 0, -1, 0), MutantRows.OUTSIDE);
        due.is("n 21", x.day(0, 0, 0, 21, 0), MutantRows.OUTSIDE);
        for (int what : new int[] {-1, 5, 9, 17, Integer.MAX_VALUE, Integer.MIN_VALUE}) {
            due.is("what " + what, x.day(0, 1, 0, 0, what), MutantRows.OUTSIDE);
        }
        due.is("n 20", Due.day(x, 1, new int[40]), MutantRows.NONE);
        MutantRows none = new MutantRows();
        due.is("STATE ahead of pairs", Due.day(none, 0, 0, 9), MutantRows.STATE);
        due.is("fault() behind STATE", none.fault(), 0);
        due.is("INDEX ahead of STATE", none.day(3, 2, 1, 1, 0), -13);
    }

    private static void dayFaults() {
        MutantRows x = Due.told("m;axy,P312");
        Due.fill(x, 1, 1, 0, 0, 1, 10);
        due.faults("CAST ahead of INDEX", x, x.day(1, 2, 9, 1, 0), -12, 2);
        due.faults("NULL", x, x.day(2, 2, 9, 1, 0), -11, 1);
        due.faults("cells that are not there", x, x.day(1, 1, 3, 1, 0), -13, 3);
        due.faults("i below 0", x, x.day(1, 1, -1, 1, 0), -13, 3);
        due.faults("i the greatest", x, x.day(1, 1, Integer.MAX_VALUE, 20, 0), -13, 3);
        due.faults("none, beyond the end", x, x.day(1, 1, 5, 0, 0), -13, 3);
        due.faults("none, at the end", x, x.day(1, 1, 4, 0, 0), 4, 0);
        due.faults("the latter pair", x, x.day(1, 1, 2, 1, 4), 1, 0);
    }
}
