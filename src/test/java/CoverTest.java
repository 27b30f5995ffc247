/** Promises 14 to 16: the lightest TESTS, TESTS chosen one by one, the SCORE. */
public final class CoverTest {
    private static final Due due = new Due("CoverTest");

    private static final String NONE_KILLED = "m;gxx,P100,P200";
    private static final String ALL_EQUAL = "m;sxx;s00,P111";

    public static void main(String[] args) {
        covers();
        coversOfTheSameWeight();
        choosing();
        choosingByWeight();
        nothingToKill();
        refusals();
        scores();
        due.end();
    }

    private static void covers() {
        // TEST 0 KILLS all four; 1 none; 2 m and l, at 5 0.
        MutantRows x = Due.told("m;axy,P312,S100,D150");
        dueCover(x, 1, 3, 1);
        due.is("MUTANTS of TEST 2", x.ofTest(2, 6), 10);
        // At 0 1 a makes 1; s 9, m 0, g 1, l 0: together with 2 g is left out.
        x.aim(0, 0, 1);
        due.is("MUTANTS of TEST 0", x.ofTest(0, 6), 11);
        dueCover(x, 1, 3, 1);
        // At 1 5 a makes 6; s 6, m 5, g 5, l 1.
        x.aim(1, 1, 5);
        due.is("MUTANTS of TEST 1", x.ofTest(1, 6), 14);
        x.time(1, 2);
        dueCover(x, 3, 6, 2);
        x.time(0, 9);
        dueCover(x, 3, 12, 2);
    }

    private static void coversOfTheSameWeight() {
        dueCover(Due.told("m;axy,P412,P312,P312"), 2, 3, 1);
        dueCover(Due.told("m;axy,P412,S312,D212"), 1, 4, 1);
        // TEST 0 KILLS s, m, l; TEST 1 m, g, l; TEST 2 all four at the same WEIGHT as both.
        dueCover(Due.told("m;axy,P301,P315,P612"), 3, 6, 2);
        dueCover(Due.told("m;axy,P612,P301,P315"), 1, 6, 1);
    }

    private static void dueCover(MutantRows x, int set, int weight, int tests) {
        due.is("cover(0)", x.cover(0), set);
        due.is("cover(1)", x.cover(1), weight);
        due.is("cover(2)", x.cover(2), tests);
    }

    private static void choosing() {
        // TEST 0 KILLS m and l, 1 s, m, l, 2 m, g, l, 3 none, 4 all four.
        MutantRows x = Due.told("m;axy,P150,P301,P215,P100,D512");
        dueChoice(x, 0, 16, 10, 4);
        dueChoice(x, 1, 7, 6, 0, 2, 1);
        dueChoice(x, 2, 7, 6, 0, 2, 1);
        // Behind TEST 0 s and g are left: 2 and 4 weigh the same, the first one is chosen.
        x.time(4, 1);
        dueChoice(x, 1, 21, 5, 0, 2, 4);
        dueChoice(x, 2, 17, 3, 0, 4);
        x.time(0, 9);
        dueChoice(x, 1, 20, 4, 2, 4);
        dueChoice(x, 2, 16, 2, 4);
        MutantRows same = Due.told("m;axy,P200,P212,P212");
        for (int manner = 0; manner <= 2; manner++) {
            dueChoice(same, manner, 2, 2, 1);
        }
    }

    private static void choosingByWeight() {
        // Each KILLS three, TEST 0 by WEIGHT 5, TEST 1 by 4.
        MutantRows x = Due.told("m;axy,P501,P415");
        dueChoice(x, 2, 3, 9, 1, 0);
        // Two by 3 (0.66) are less than three by 4 (0.75), which whole numbers would not tell.
        dueChoice(Due.told("m;axy,P350,P401"), 2, 2, 4, 1);
        // Two by 2 and four by 4 are the same: the first one.
        dueChoice(Due.told("m;axy,P250,P412"), 2, 3, 6, 0, 1);
        // WEIGHT, not TIME: a SLOW one of 3 is as heavy as a PLAIN one of 4.
        dueChoice(Due.told("m;axy,S312,P412"), 1, 1, 4, 0);
        dueChoice(Due.told("m;axy,D312,P412"), 1, 2, 4, 1);
    }

    private static void dueChoice(MutantRows x, int manner, int set, int weight, int... tests) {
        String name = "choose(" + manner + ", ";
        due.is(name + "0)", x.choose(manner, 0), set);
        due.is(name + "1)", x.choose(manner, 1), weight);
        for (int k = 0; k < 7; k++) {
            due.is(name + (10 + k) + ")", x.choose(manner, 10 + k), k < tests.length ? tests[k] : MutantRows.NONE);
        }
    }

    private static void nothingToKill() {
        MutantRows x = Due.told(NONE_KILLED);
        dueCover(x, 0, 0, 0);
        for (int manner = 0; manner <= 2; manner++) {
            dueChoice(x, manner, 0, 0);
        }
    }

    private static void refusals() {
        MutantRows none = new MutantRows();
        MutantRows x = Due.told("m;axy,P312");
        due.is("cover(-1)", x.cover(-1), MutantRows.OUTSIDE);
        due.is("cover(3)", none.cover(3), MutantRows.OUTSIDE);
        due.is("cover(2) without a PROGRAM", none.cover(2), MutantRows.STATE);
        due.is("choose(-1, 0)", x.choose(-1, 0), MutantRows.OUTSIDE);
        due.is("choose(3, 0)", none.choose(3, 0), MutantRows.OUTSIDE);
        for (int what : new int[] {-1, 2, 9, 17, Integer.MIN_VALUE}) {
            due.is("choose(0, " + what + ")", x.choose(0, what), MutantRows.OUTSIDE);
            due.is("OUTSIDE ahead of STATE", none.choose(0, what), MutantRows.OUTSIDE);
        }
        due.is("choose(2, 16) without a PROGRAM", none.choose(2, 16), MutantRows.STATE);
        due.is("score(-1)", x.score(-1), MutantRows.LOST);
        due.is("score(2)", x.score(2), MutantRows.LOST);
        due.is("score(0) without a PROGRAM", none.score(0), MutantRows.LOST);
        due.is("score(1) without a PROGRAM", none.score(1), MutantRows.LOST);
    }

    private static void scores() {
        dueScore("m;axy,P312", 1, 1);
        dueScore("m;axy,P150", 1, 2);
        dueScore("m;axy,P101", 3, 4);
        dueScore("m;axy,P100", 0, 1);
        dueScore("m;gxx,P122", 1, 1);
        // g makes 1 at 1 1; a 2, s 0, m 1: one of three is left, and l is EQUAL.
        dueScore("m;gxx,P111", 2, 3);
        dueScore(NONE_KILLED, 0, 1);
        dueScore(ALL_EQUAL, 0, 1);
    }

    private static void dueScore(String text, long upper, long lower) {
        MutantRows x = Due.told(text);
        due.is("score(0) of " + text, x.score(0), upper);
        due.is("score(1) of " + text, x.score(1), lower);
    }
}
