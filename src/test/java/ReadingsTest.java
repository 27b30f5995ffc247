/** Promises 17 to 21: READINGS and what they leave, ODDS. */
public final class ReadingsTest {
    private static final Due due = new Due("ReadingsTest");

    public static void main(String[] args) {
        numbers();
        takenBack();
        refusals();
        kindsLeft();
        waysLeft();
        odds();
        due.end();
    }

    private static void numbers() {
        MutantRows x = Due.told("m;axy,P312");
        for (int r = 1; r <= 8; r++) {
            due.is("number of READING " + r, x.reading(r * 25), r);
            due.is("READINGS", x.many(5), r);
        }
        due.is("a ninth", x.reading(0), MutantRows.FULL);
        due.is("OUTSIDE ahead of FULL", x.reading(201), MutantRows.OUTSIDE);
        due.is("READINGS that stay", x.many(5), 8);
        due.is("back(1)", x.back(1), 7);
        due.is("an eighth again", x.reading(0), 8);
    }

    private static void takenBack() {
        MutantRows x = Due.told("m;axy,P312");
        x.reading(3);
        x.reading(4);
        x.reading(4);
        due.is("back(4)", x.back(4), MutantRows.OUTSIDE);
        due.is("back(-1)", x.back(-1), MutantRows.OUTSIDE);
        due.is("back(0)", x.back(0), 3);
        due.is("KINDS by 3 and 4", x.kinds(0), 0);
        due.is("back(2)", x.back(2), 1);
        due.is("the first one is left", x.kinds(0), 1);
        due.is("the number behind it", x.reading(3), 2);
        due.is("back(2), all", x.back(2), 0);
        due.is("back(1) of none", x.back(1), MutantRows.OUTSIDE);
        due.is("back(0) of none", x.back(0), 0);
    }

    private static void refusals() {
        MutantRows x = Due.told("m;axy,P312");
        MutantRows none = new MutantRows();
        due.is("STATE ahead of OUTSIDE", none.reading(201), MutantRows.STATE);
        due.is("reading(-1)", x.reading(-1), MutantRows.OUTSIDE);
        due.is("reading(201)", x.reading(201), MutantRows.OUTSIDE);
        due.is("READINGS", x.many(5), 0);
        due.is("reading(200)", x.reading(200), 1);
        due.is("kinds(-1)", x.kinds(-1), MutantRows.UNKNOWN);
        due.is("kinds(1)", x.kinds(1), MutantRows.UNKNOWN);
        due.is("ways(-1)", x.ways(-1), MutantRows.UNKNOWN);
        due.is("ways(1)", x.ways(1), MutantRows.UNKNOWN);
        due.is("back(1) without a PROGRAM", none.back(1), MutantRows.OUTSIDE);
    }

    private static void kindsLeft() {
        MutantRows x = Due.told("m;axy,P312,S100");
        due.is("KINDS without READINGS", x.kinds(0), 7);
        x.reading(3);
        due.is("KINDS by 3", x.kinds(0), 1);
        due.is("KINDS of a TEST that is not in COVER", x.kinds(1), 7);
        x.reading(3);
        due.is("KINDS by 3 twice", x.kinds(0), 1);
        x.back(2);
        x.reading(4);
        due.is("KINDS by 4", x.kinds(0), 2);
        due.is("KINDS of the other TEST by 4", x.kinds(1), 0);
        x.back(1);
        x.reading(6);
        due.is("KINDS by 6", x.kinds(0), 4);
        x.time(0, 1);
        x.back(1);
        x.reading(2);
        due.is("KINDS by 2, TIME 1", x.kinds(0), 6);
        due.is("nothing is changed", x.ofTest(0, 0), 0);
    }

    private static void waysLeft() {
        // At 0 0 all five WAYS make 0; at 0 1 a 1, s 9, m 0, g 1, l 0.
        MutantRows x = Due.told("m;axy,P300,S401");
        due.is("WAYS without READINGS", x.ways(0), 31);
        x.reading(5);
        due.is("WAYS by 5", x.ways(0), 31);
        x.aim(1, 0, 0);
        due.is("WAYS by 5, at 0 0", x.ways(0), 0);
        x.back(1);
        x.reading(0);
        due.is("WAYS by 0, at 0 0", x.ways(0), 31);
        // At 5 0: a 5, s 5, m 0, g 5, l 0; at 0 5: a 5, s 5, m 0, g 5, l 0.
        x.aim(0, 5, 0);
        x.reading(3);
        due.is("WAYS by 0 and 3", x.ways(0), 0);
        x.back(2);
        x.reading(3);
        due.is("WAYS by 3", x.ways(0), 31);
        // At 0 5: a 5, s 5, m 0, g 5, l 0: TEST 0 alone KILLS all that both KILL, TEST 1 too.
        x.aim(1, 0, 5);
        due.is("WAYS by 3, the lighter one of the same", x.ways(0), 31);
        // At 0 1 s makes 9, unlike a and g: by each of these WAYS TEST 1 is needed; not so by m and l.
        x.aim(1, 0, 1);
        due.is("WAYS by 3, at 0 1", x.ways(0), 4 + 16);
        x.back(1);
        x.reading(5);
        due.is("WAYS by 5, at 0 1", x.ways(0), 1 + 2 + 8);
        due.is("nothing is changed", x.ofStep(0, 0), 0);
        dueWaysOfOneStep();
    }

    private static void dueWaysOfOneStep() {
        MutantRows x = Due.told("m;sxx;m0y,P234");
        x.reading(0);
        due.is("no WAY leaves all alive", x.ways(0), 0);
        x.back(1);
        x.reading(2);
        due.is("all WAYS of the first STEP", x.ways(0), 31);
        due.is("all WAYS of the last STEP", x.ways(1), 31);
    }

    private static void odds() {
        MutantRows x = Due.told("m;axy,P312");
        long[][] wanted = {{4, 5}, {24, 25}, {81, 100}, {99, 100}};
        for (int m = 0; m < 4; m++) {
            due.is("odds(" + m + ", 0)", x.odds(m, 0), wanted[m][0]);
            due.is("odds(" + m + ", 1)", x.odds(m, 1), wanted[m][1]);
        }
        MutantRows equal = Due.told("m;gxx,P100");
        due.is("ODDS of an EQUAL one", equal.odds(3, 0), 0);
        due.is("ODDS of an EQUAL one", equal.odds(3, 1), 1);
        due.is("odds(-1, 0)", x.odds(-1, 0), MutantRows.LOST);
        due.is("odds(4, 0)", x.odds(4, 0), MutantRows.LOST);
        due.is("odds(0, -1)", x.odds(0, -1), MutantRows.LOST);
        due.is("odds(0, 2)", x.odds(0, 2), MutantRows.LOST);
        due.is("odds without a PROGRAM", new MutantRows().odds(0, 0), MutantRows.LOST);
    }
}
