/** Promises 1 to 8: a new object, the PROGRAM by a TEXT, its STEPS and TESTS. */
public final class ProgramTest {
    private static final Due due = new Due("ProgramTest");

    /** Two STEPS, and a TEST of each kind. */
    private static final String SMALL = "m;axy;s0y,P312,S945,D207";

    public static void main(String[] args) {
        newObject();
        textsTaken();
        firstFaults();
        mostStepsAndTests();
        programRefusals();
        programFaults();
        programMakesAnew();
        steps();
        tests();
        outputs();
        waysOfMaking();
        wayTimeAim();
        due.end();
    }

    private static void newObject() {
        MutantRows x = new MutantRows();
        for (int what = 0; what <= 5; what++) {
            due.is("many of a new one", x.many(what), 0);
        }
        for (int k = 0; k < 4; k++) {
            due.is("lose of a new one", x.lose(k), 0);
        }
        due.is("trace of a new one", x.trace(), 0);
        due.is("fault of a new one", x.fault(), 0);
        due.is("ofStep of a new one", x.ofStep(0, 0), MutantRows.UNKNOWN);
        due.is("ofTest of a new one", x.ofTest(0, 0), MutantRows.UNKNOWN);
        due.is("output of a new one", x.output(1, 1), MutantRows.STATE);
        due.is("hardest of a new one", x.hardest(), MutantRows.STATE);
    }

    private static void textsTaken() {
        due.is("one STEP", Due.tell(new MutantRows(), "m;axy,P312"), 4);
        due.is("two STEPS", Due.tell(new MutantRows(), SMALL), 8);
        for (int lane = 0; lane <= 2; lane++) {
            MutantRows x = new MutantRows();
            Due.fill(x, 2, lane, ("??" + SMALL + "?").chars().toArray());
            due.faults("amid a row of LANE " + lane, x, x.program(2, lane, 2, SMALL.length()), 8, 0);
            due.is("STEPS", x.many(0), 2);
            due.is("TESTS", x.many(1), 3);
            due.is("one cell too many", x.program(2, lane, 2, SMALL.length() + 1), -100 - SMALL.length());
        }
    }

    private static void firstFaults() {
        String[] texts = {
            "", "x", "M", "m", "mx", "m,", "m;", "m;x", "m;A", "m;d", "m;a", "m;a0", "m;az", "m;ax", "m;ax0",
            "m;axy", "m;axyx", "m;axy;", "m;axy;m", "m;axy;m1", "m;axy;m0", "m;axy;m01", "m;axy;m00",
            "m;axy;m00;gy2", "m;axy;m00;g2x", "m;axy,", "m;axy,p", "m;axy,P", "m;axy,P0", "m;axy,P:", "m;axy,P1",
            "m;axy,P1/", "m;axy,P1x", "m;axy,P12", "m;axy,P12:", "m;axy,P123;", "m;axy,P1234", "m;axy,P123,",
            "m;axy,P123,D", "m;axy,P123,D9", "m;axy,P123,D90", "m;axy,P123m",
            "m;,P123", "m;a,P123", "m;ax,P123", "m;ax;axy,P123", "m;axy,,P123", "m;axy,P,P123", "m;axy,P1,P123",
            "m;axy,P12,P123",
        };
        int[] places = {
            0, 0, 0, 1, 1, 1, 2, 2, 2, 2, 3, 3, 3, 4, 4,
            5, 5, 6, 7, 7, 8, 8, 9,
            12, 11, 6, 6, 7, 7, 7, 8,
            8, 8, 9, 9, 10, 10, 11,
            12, 13, 14, 10,
            2, 3, 4, 4, 6, 7, 8,
            9,
        };
        due.is("texts told", texts.length, places.length);
        for (int c = 0; c < texts.length; c++) {
            MutantRows x = Due.told("m;gxy,P111");
            due.faults("program of " + texts[c], x, Due.tell(x, texts[c]), -100 - places[c], 0);
            due.is("WAY that stays", x.ofStep(0, 0), 3);
            due.is("STEPS that stay", x.many(0), 1);
        }
        MutantRows x = new MutantRows();
        Due.fill(x, 0, 2, "m;axy,P312".chars().toArray());
        x.put(0, 2, 97 + 256);
        due.is("a code beyond a byte", x.program(0, 2, 0, 10), -102);
        x.put(0, 2, 97 + 65536);
        due.is("a code beyond a char", x.program(0, 2, 0, 10), -102);
        x.put(0, 2, Integer.MIN_VALUE);
        due.is("a code far below 0", x.program(0, 2, 0, 10), -102);
        x.put(0, 2, 97);
        x.put(0, 3, Integer.MIN_VALUE);
        due.is("a SOURCE far below 0", x.program(0, 2, 0, 10), -103);
        x.put(0, 3, -1);
        due.is("a SOURCE of -1", x.program(0, 2, 0, 10), -103);
    }

    private static void mostStepsAndTests() {
        String steps = "m;axy;s0x;m1y;g21;l30";
        String tests = ",P100,S211,D322,P433,S544,D655,P766";
        due.is("five STEPS, seven TESTS", Due.tell(new MutantRows(), steps + tests), 20);
        due.is("a sixth STEP", Due.tell(new MutantRows(), steps + ";axy,P100"), -121);
        due.is("an eighth TEST", Due.tell(new MutantRows(), "m;axy" + tests + ",P111"), -140);
        due.is("SOURCE is the STEP itself", Due.tell(new MutantRows(), "m;axy;s0x;m1y;g21;l43,P111"), -119);
        due.is("no TEST", Due.tell(new MutantRows(), steps), -121);
    }

    private static void programRefusals() {
        MutantRows x = Due.told(SMALL);
        due.faults("SHEET -1", x, x.program(-1, 9, 0, 1), MutantRows.UNKNOWN, 0);
        due.is("SHEET 4", x.program(4, 0, 0, 1), MutantRows.UNKNOWN);
        due.is("LANE -1", x.program(0, -1, 0, 1), MutantRows.OUTSIDE);
        due.is("LANE 3 of nothing", x.program(1, 3, 0, -1), MutantRows.OUTSIDE);
        due.is("SHEET of Integer.MIN_VALUE", x.program(Integer.MIN_VALUE, 0, 0, 0), MutantRows.UNKNOWN);
        due.is("STEPS that stay", x.many(0), 2);
    }

    private static void programFaults() {
        MutantRows x = Due.told(SMALL);
        int n = SMALL.length();
        due.faults("another LANE ahead of SIZE", x, x.program(0, 1, 0, -1), -12, 2);
        due.faults("nothing ahead of SIZE", x, x.program(1, 1, 0, -1), -11, 1);
        due.faults("SIZE ahead of INDEX", x, x.program(0, 0, -1, -1), -14, 4);
        due.faults("i below 0", x, x.program(0, 0, -1, 1), -13, 3);
        due.faults("one cell too many", x, x.program(0, 0, 0, n + 1), -13, 3);
        due.faults("none, at the end", x, x.program(0, 0, n, 0), -100, 0);
        due.faults("none, beyond the end", x, x.program(0, 0, n + 1, 0), -13, 3);
        due.faults("i and n wrap", x, x.program(0, 0, 1, Integer.MAX_VALUE), -13, 3);
        due.faults("both greatest", x, x.program(0, 0, Integer.MAX_VALUE, Integer.MAX_VALUE), -13, 3);
        due.is("STEPS that stay", x.many(0), 2);
    }

    private static void programMakesAnew() {
        MutantRows x = Due.told(SMALL);
        x.reading(3);
        due.is("a TEXT that is not taken", Due.tell(x, "m;axy"), -105);
        due.is("READINGS that stay", x.many(5), 1);
        due.is("a TEXT that is taken", Due.tell(x, "m;gyx,D119"), 4);
        due.is("READINGS", x.many(5), 0);
        due.is("STEPS", x.many(0), 1);
        due.is("TESTS", x.many(1), 1);
        due.is("no second STEP", x.ofStep(1, 0), MutantRows.UNKNOWN);
        due.is("no second TEST", x.ofTest(1, 0), MutantRows.UNKNOWN);
        x.put(0, 2, 'a');
        due.is("a PROGRAM does not hang on its SHEET", x.ofStep(0, 0), 3);
    }

    private static void steps() {
        MutantRows x = Due.told("m;axy;s0x;m1y;g21;l03,P111");
        int[] ways = {0, 1, 2, 3, 4};
        int[] firsts = {5, 0, 1, 2, 0};
        int[] seconds = {6, 5, 6, 1, 3};
        for (int k = 0; k < 5; k++) {
            due.is("WAY of STEP " + k, x.ofStep(k, 0), ways[k]);
            due.is("first SOURCE of STEP " + k, x.ofStep(k, 1), firsts[k]);
            due.is("second SOURCE of STEP " + k, x.ofStep(k, 2), seconds[k]);
            due.is("ofStep(, 3)", x.ofStep(k, 3), MutantRows.OUTSIDE);
            due.is("ofStep(, -1)", x.ofStep(k, -1), MutantRows.OUTSIDE);
        }
        due.is("ofStep(-1, 9)", x.ofStep(-1, 9), MutantRows.UNKNOWN);
        due.is("ofStep(5, 9)", x.ofStep(5, 9), MutantRows.UNKNOWN);
    }

    private static void tests() {
        MutantRows x = Due.told(SMALL);
        int[][] wanted = {
            {0, 3, 3, 1, 2, 1},
            {1, 9, 10, 4, 5, 4},
            {2, 2, 4, 0, 7, 0},
        };
        for (int t = 0; t < wanted.length; t++) {
            for (int what = 0; what < 6; what++) {
                due.is("ofTest(" + t + ", " + what + ")", x.ofTest(t, what), wanted[t][what]);
            }
            due.is("ofTest(, 7)", x.ofTest(t, 7), MutantRows.OUTSIDE);
            due.is("ofTest(, -1)", x.ofTest(t, -1), MutantRows.OUTSIDE);
        }
        // x 1, y 2: STEP 0 makes 3 (or 9, 2, 2, 1), STEP 1 makes 1 of 3 and 2 (or 5, 6, 3, 2).
        due.is("MUTANTS that TEST 0 KILLS", x.ofTest(0, 6), 0xff);
        // x 0, y 7: STEP 0 makes 7 (or 3, 0, 7, 0), STEP 1 makes 0 of 7 and 7 (or 4, 9, 7, 7).
        due.is("MUTANTS that TEST 2 KILLS", x.ofTest(2, 6), 0xfb);
        due.is("ofTest(-1, 9)", x.ofTest(-1, 9), MutantRows.UNKNOWN);
        due.is("ofTest(3, 9)", x.ofTest(3, 9), MutantRows.UNKNOWN);
    }

    private static void outputs() {
        MutantRows x = Due.told(SMALL);
        for (int a = 0; a < 10; a++) {
            for (int b = 0; b < 10; b++) {
                due.is("x and y less y", x.output(a, b), a);
            }
        }
        due.is("output(10, 0)", x.output(10, 0), MutantRows.OUTSIDE);
        due.is("output(0, 10)", x.output(0, 10), MutantRows.OUTSIDE);
        due.is("output(-1, 0)", x.output(-1, 0), MutantRows.OUTSIDE);
        due.is("output(0, -1)", x.output(0, -1), MutantRows.OUTSIDE);
        due.is("OUTSIDE ahead of STATE", new MutantRows().output(0, 10), MutantRows.OUTSIDE);
    }

    private static void waysOfMaking() {
        MutantRows x = Due.told("m;axy,P111");
        int[][] inputs = {{7, 8}, {8, 5}, {3, 3}, {9, 9}};
        int[][] wanted = {{5, 9, 6, 8, 7}, {3, 3, 0, 8, 5}, {6, 0, 9, 3, 3}, {8, 0, 1, 9, 9}};
        for (int c = 0; c < inputs.length; c++) {
            for (int way = 0; way < 5; way++) {
                x.way(0, way);
                due.is("WAY " + way, x.output(inputs[c][0], inputs[c][1]), wanted[c][way]);
            }
        }
        x.way(0, 1);
        due.is("0 less 9", x.output(0, 9), 1);
    }

    private static void wayTimeAim() {
        MutantRows x = Due.told(SMALL);
        due.is("way(1, 4)", x.way(1, 4), 1);
        due.is("way(1, 4) again", x.way(1, 4), 4);
        due.is("WAY", x.ofStep(1, 0), 4);
        due.is("WAY of the other STEP", x.ofStep(0, 0), 0);
        due.is("way(2, 9)", x.way(2, 9), MutantRows.UNKNOWN);
        due.is("way(-1, 0)", x.way(-1, 0), MutantRows.UNKNOWN);
        due.is("way(0, 5)", x.way(0, 5), MutantRows.OUTSIDE);
        due.is("way(0, -1)", x.way(0, -1), MutantRows.OUTSIDE);
        due.is("WAY that stays", x.ofStep(0, 0), 0);
        due.is("time(2, 9)", x.time(2, 9), 2);
        due.is("WEIGHT of a DOUBLE one", x.ofTest(2, 2), 18);
        due.is("time(2, 1)", x.time(2, 1), 9);
        due.is("time(3, 0)", x.time(3, 0), MutantRows.UNKNOWN);
        due.is("time(-1, 1)", x.time(-1, 1), MutantRows.UNKNOWN);
        due.is("time(0, 0)", x.time(0, 0), MutantRows.OUTSIDE);
        due.is("time(0, 10)", x.time(0, 10), MutantRows.OUTSIDE);
        due.is("TIME that stays", x.ofTest(0, 1), 3);
        due.is("aim(1, 9, 0)", x.aim(1, 9, 0), 45);
        due.is("aim(1, 0, 9)", x.aim(1, 0, 9), 90);
        due.is("x", x.ofTest(1, 3), 0);
        due.is("y", x.ofTest(1, 4), 9);
        due.is("aim(3, 10, 0)", x.aim(3, 10, 0), MutantRows.UNKNOWN);
        due.is("aim(-1, 0, 0)", x.aim(-1, 0, 0), MutantRows.UNKNOWN);
        due.is("aim(1, 10, 0)", x.aim(1, 10, 0), MutantRows.OUTSIDE);
        due.is("aim(1, 0, 10)", x.aim(1, 0, 10), MutantRows.OUTSIDE);
        due.is("aim(1, -1, 0)", x.aim(1, -1, 0), MutantRows.OUTSIDE);
        due.is("aim(1, 0, -1)", x.aim(1, 0, -1), MutantRows.OUTSIDE);
        due.is("INPUTS that stay", x.aim(1, 0, 9), 9);
    }
}
