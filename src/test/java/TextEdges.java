/** Sentences of the Terms, part ==== 1: TEXTS, kinds, WEIGHT, WAYS, MUTANTS. */
final class TextEdges extends Edges {
    /** As many STEPS and TESTS as a TEXT can have, and where these begin. */
    private static final int FIRST_TEST = 1 + 5 * 4, LENGTH = FIRST_TEST + 7 * 5;

    TextEdges(Sentences document) {
        super(document);
    }

    @Override
    void ask() {
        steps();
        tests();
        firstFault();
        codes();
        kinds();
        anew();
        weight();
        ways();
        outputs();
        mutants();
        close();
    }

    private void dueText(long want, String text) {
        is("program of " + text, Due.tell(new MutantRows(), text), want);
    }

    private void steps() {
        term(2, "A PROGRAM by a TEXT: m,");
        dueText(4, "m;axy,P112");
        dueText(-100, ";axy,P112");
        dueText(-100, "M;axy,P112");
        dueText(-101, "mm;axy,P112");

        term(2, "then 1 to 5 STEPS, numbered from 0 on, each: ;");
        dueText(-101, "m,P112");
        dueText(4, "m;axy,P112");
        dueText(20, "m;axy;sxy;mxy;gxy;lxy,P112");
        dueText(-121, "m;axy;sxy;mxy;gxy;lxy;axy,P112");
        dueText(-101, "maxy,P112");
        dueText(-105, "m;axysxy,P112");
        fromText("m;axy;sxy;mxy;gxy;lxy,P112");
        for (int k = 0; k <= 4; k++) {
            due(k, "ofStep", k, 0);
        }
        due(UNKNOWN, "ofStep", 5, 0);

        term(2, "and a letter (its WAY: a, s, m, g, l),");
        for (int code = 0; code < 128; code++) {
            int way = "asmgl".indexOf(code);
            MutantRows x = new MutantRows();
            is("WAY " + code, Due.tell(x, "m;" + (char) code + "xy,P112"), way < 0 ? -102 : 4);
            is("which WAY", x.ofStep(0, 0), way < 0 ? UNKNOWN : way);
        }

        term(2, "two SOURCES, each x, y, or the digit of a STEP told ahead;");
        String ahead = "m";
        for (int k = 0; k <= 4; k++) {
            for (int code = 0; code < 128; code++) {
                int source = code == 'x' ? 5 : code == 'y' ? 6 : code >= '0' && code < '0' + k ? code - '0' : -1;
                dueSource(ahead + ";a" + (char) code + "y,P112", k, 1, source, -100 - ahead.length() - 2);
                dueSource(ahead + ";ax" + (char) code + ",P112", k, 2, source, -100 - ahead.length() - 3);
            }
            ahead += ";axy";
        }
        dueText(-103, "m;a,P112");
        dueText(-104, "m;ax,P112");
        dueText(-105, "m;axyx,P112");
    }

    private void dueSource(String text, int k, int what, int source, int fault) {
        MutantRows x = new MutantRows();
        is("program of " + text, Due.tell(x, text), source < 0 ? fault : 4 * (k + 1));
        is("SOURCE", x.ofStep(k, what), source < 0 ? UNKNOWN : source);
    }

    private void tests() {
        term(2, "then 1 to 7 TESTS, numbered from 0 on, each: a comma,");
        dueText(-105, "m;axy");
        dueText(4, "m;axy,P112");
        dueText(4, "m;axy" + ",P112".repeat(7));
        dueText(-140, "m;axy" + ",P112".repeat(8));
        dueText(-105, "m;axyP112");
        dueText(-110, "m;axy,P112P112");
        dueText(-110, "m;axy,P112;axy");
        fromText("m;axy,P100,P211,P322,P433,P544,P655,P766");
        for (int t = 0; t <= 6; t++) {
            due(t + 1, "ofTest", t, 1);
            due(t, "ofTest", t, 3);
        }
        due(UNKNOWN, "ofTest", 7, 1);

        term(2, "a letter (its kind),");
        for (int code = 0; code < 128; code++) {
            dueOfTest("kind " + code, (char) code + "112", 0, "PSD".indexOf(code), -106);
        }

        term(2, "a digit 1 .. 9 (TIME),");
        for (int code = 0; code < 128; code++) {
            dueOfTest("TIME " + code, "P" + (char) code + "12", 1, "123456789".indexOf(code) < 0 ? -1 : code - '0', -107);
        }

        term(2, "two digits 0 .. 9 (its INPUTS x and y).");
        for (int code = 0; code < 128; code++) {
            int figure = "0123456789".indexOf(code);
            dueOfTest("x " + code, "P1" + (char) code + "2", 3, figure, -108);
            dueOfTest("y " + code, "P11" + (char) code, 4, figure, -109);
        }
    }

    private void dueOfTest(String name, String test, int what, int want, int fault) {
        MutantRows x = new MutantRows();
        is("program by " + name, Due.tell(x, "m;axy," + test), want < 0 ? fault : 4);
        is(name, x.ofTest(0, what), want < 0 ? UNKNOWN : want);
    }

    private void firstFault() {
        term(2, "FIRST FAULT: the place (from 0 on) of the first code with which no TEXT goes on");
        for (int place = 0; place <= LENGTH; place++) {
            String ahead = MOST.substring(0, place);
            for (int code = -128; code <= 127; code++) {
                dueGoesOn(ahead, code);
            }
        }
        // Whatever comes behind it is not looked at.
        dueText(-102, "m;?xy,P112,?");
        dueText(-106, "m;axy,?,?");

        term(2, "(the ; of a sixth STEP, the comma of an eighth TEST);");
        String five = "m;axy;axy;axy;axy;axy";
        dueText(-121, five + ";");
        dueText(-121, five + ";axy");
        dueText(-121, five + ";axy,P112");
        String seven = "m;axy" + ",P112".repeat(7);
        dueText(-140, seven + ",");
        dueText(-140, seven + ",P112");
        dueText(-156, five + ",P112".repeat(7) + ",");
        dueText(20, five + ",P112".repeat(7));

        term(2, "how many codes there are, if it just ends too soon.");
        for (int n = 0; n < LENGTH; n++) {
            boolean ends = n > FIRST_TEST && (n - FIRST_TEST) % 5 == 0;
            dueText(ends ? 20 : -100 - n, MOST.substring(0, n));
        }
        dueText(20, MOST);
    }

    /** Codes that a TEXT that begins like MOST does goes on with; a ; or a comma only where these differ. */
    private static String goingOn(int place) {
        if (place == 0) {
            return "m";
        }
        if (place < FIRST_TEST) {
            int step = (place - 1) / 4;
            String sources = "xy" + "0123".substring(0, step);
            return new String[] {step == 0 ? ";" : ";,", "asmgl", sources, sources}[(place - 1) % 4];
        }
        if (place < LENGTH) {
            return new String[] {",", "PSD", "123456789", "0123456789", "0123456789"}[(place - FIRST_TEST) % 5];
        }
        return "";
    }

    private void dueGoesOn(String ahead, int code) {
        int place = ahead.length();
        boolean fine = code >= 0 && goingOn(place).indexOf(code) >= 0;
        boolean ends = place >= FIRST_TEST && (place - FIRST_TEST) % 5 == 4;
        int[] cells = new int[place + 1];
        for (int i = 0; i < place; i++) {
            cells[i] = ahead.charAt(i);
        }
        cells[place] = code;
        MutantRows x = new MutantRows();
        Due.fill(x, 0, 0, cells);
        int want = !fine ? -100 - place : ends ? 20 : -100 - place - 1;
        is("program of " + ahead + " and " + code, x.program(0, 0, 0, cells.length), want);
    }

    private void codes() {
        term(2, "(Codes: a 97, s 115, m 109, g 103, l 108, x 120, y 121, the kinds' P 80, S 83, D 68, ; 59,"
                + " the comma 44, digits 48 .. 57.)");
        MutantRows x = new MutantRows();
        Due.fill(x, 0, 2, 109, 59, 97, 120, 121, 59, 115, 48, 121, 59, 109, 120, 49, 59, 103, 50, 48, 59, 108, 51, 121,
                44, 80, 49, 48, 57, 44, 83, 57, 50, 56, 44, 68, 53, 52, 54);
        is("program by codes", x.program(0, 2, 0, 36), 20);
        int[][] steps = {{0, 5, 6}, {1, 0, 6}, {2, 5, 1}, {3, 2, 0}, {4, 3, 6}};
        for (int k = 0; k < steps.length; k++) {
            for (int what = 0; what < 3; what++) {
                is("ofStep(" + k + ", " + what + ")", x.ofStep(k, what), steps[k][what]);
            }
        }
        int[][] tests = {{0, 1, 1, 0, 9}, {1, 9, 10, 2, 8}, {2, 5, 10, 4, 6}};
        for (int t = 0; t < tests.length; t++) {
            for (int what = 0; what < 5; what++) {
                is("ofTest(" + t + ", " + what + ")", x.ofTest(t, what), tests[t][what]);
            }
        }
    }

    private void kinds() {
        term(4, "Kinds: 0 PLAIN (P); 1 SLOW (S), a PLAIN one; 2 DOUBLE (D), a SLOW one.");
        fromText("m;axy,P112,S112,D112");
        for (int t = 0; t <= 2; t++) {
            due(t, "ofTest", t, 0);
            for (int kind = 0; kind <= 2; kind++) {
                due(kind <= t ? 1 : -12, "as", t, kind);
            }
        }
    }

    private void anew() {
        term(2, "A TEXT that is taken makes all anew: no READINGS.");
        from(Edges::most);
        due(1, "way", 1, 4);
        due(2, "time", 1, 9);
        due(34, "aim", 1, 0, 0);
        due(20, "program", 0, 0, 0, 56);
        due(0, "many", 5);
        due(1, "ofStep", 1, 0);
        due(2, "ofTest", 1, 1);
        due(3, "ofTest", 1, 3);
        due(OUTSIDE, "back", 1);
        due(1, "reading", 4);
        // A lesser one leaves nothing of a greater one.
        MutantRows x = most();
        is("program of a lesser one", Due.tell(x, "m;gxy,P111"), 4);
        is("READINGS", x.many(5), 0);
        is("STEPS", x.many(0), 1);
        is("TESTS", x.many(1), 1);
        is("STEP 1", x.ofStep(1, 0), UNKNOWN);
        is("TEST 1", x.ofTest(1, 0), UNKNOWN);
        is("MUTANT 4", x.ofMutant(4, 0), UNKNOWN);
        is("KILLED ones", x.many(3), 2);
        is("COVER", x.cover(0), 1);
        // One that is not taken leaves all.
        from(Edges::most);
        refuses(-155, "program", 0, 0, 0, 55);
        refuses(-100, "program", 1, 1, 0, 1);
    }

    private void weight() {
        term(4, "WEIGHT of a TEST: of a PLAIN one TIME; of a SLOW one 1 more;"
                + " of a DOUBLE one twice what a PLAIN one's is.");
        for (int time = 1; time <= 9; time++) {
            fromText("m;axy,P" + time + "12,S" + time + "12,D" + time + "12");
            due(time, "ofTest", 0, 2);
            due(time + 1, "ofTest", 1, 2);
            due(time + time, "ofTest", 2, 2);
        }
    }

    private void ways() {
        String[] words = {
            "WAYS: 0 a: both SOURCES together,", "1 s: the first one less the second one,", "2 m: one times the other one,",
            "3 g: the greater one;", "4 l: the lesser one.",
        };
        for (int way = 0; way < words.length; way++) {
            term(5, words[way]);
            fromText("m;" + "asmgl".charAt(way) + "xy,P112");
            for (int xy = 0; xy < 100; xy++) {
                due(figure(way, xy / 10, xy % 10), "output", xy / 10, xy % 10);
            }
        }

        term(5, "each of these the last figure alone (of s 10 more, if it is below 0);");
        dueOutput("a", 4, 5, 9);
        dueOutput("a", 5, 5, 0);
        dueOutput("a", 9, 9, 8);
        dueOutput("s", 9, 0, 9);
        dueOutput("s", 5, 5, 0);
        dueOutput("s", 4, 5, 9);
        dueOutput("s", 0, 9, 1);
        dueOutput("m", 3, 3, 9);
        dueOutput("m", 2, 5, 0);
        dueOutput("m", 9, 9, 1);
        dueOutput("m", 0, 9, 0);
    }

    private static int figure(int way, int x, int y) {
        switch (way) {
            case 0: return lastFigure(x + y);
            case 1: return x < y ? x - y + 10 : x - y;
            case 2: return lastFigure(x * y);
            case 3: return Math.max(x, y);
            default: return Math.min(x, y);
        }
    }

    private static int lastFigure(int v) {
        String figures = String.valueOf(v);
        return figures.charAt(figures.length() - 1) - '0';
    }

    private void dueOutput(String way, int x, int y, int want) {
        is(way + " of " + x + " and " + y, Due.told("m;" + way + "xy,P112").output(x, y), want);
        // The same of what STEPS made, not of INPUTS alone.
        is(way + " of STEPS", Due.told("m;lxx;lyy;" + way + "01,P112").output(x, y), want);
    }

    private void outputs() {
        term(5, "INPUTS are figures 0 .. 9;");
        from(Edges::small);
        for (int x = 0; x <= 9; x++) {
            // SMALL makes x and y less y, which is x.
            due(x, "output", x, 0);
            due(x, "output", x, 9);
        }
        refuses(OUTSIDE, "output", 10, 0);
        refuses(OUTSIDE, "output", 0, 10);
        refuses(OUTSIDE, "output", -1, 0);
        refuses(OUTSIDE, "output", 0, -1);

        term(5, "the PROGRAM's OUTPUT is what its last STEP makes.");
        // At 3 4: a 7, s 9, m 2, g 4, l 3.
        int[] made = {7, 9, 2, 4, 3};
        StringBuilder text = new StringBuilder("m");
        for (int k = 0; k < made.length; k++) {
            text.append(';').append("asmgl".charAt(k)).append("xy");
            is("OUTPUT of " + text, Due.told(text + ",P134").output(3, 4), made[k]);
            is("OUTPUT of its TEST", Due.told(text + ",P134").ofTest(0, 5), made[k]);
        }
    }

    private void mutants() {
        term(9, "MUTANTS: of each STEP four: the PROGRAM, but for that STEP in another WAY;");
        for (int k = 0; k <= 4; k++) {
            for (int m = 4 * k; m < 4 * k + 4; m++) {
                dueAsProgram(m, k);
            }
        }

        term(9, "numbered from 0 on, by STEPS, then by WAYS.");
        fromText("m;lxy;gxy;mxy;sxy;axy,P112");
        int[] ways = {0, 1, 2, 3, 0, 1, 2, 4, 0, 1, 3, 4, 0, 2, 3, 4, 1, 2, 3, 4};
        for (int m = 0; m < 20; m++) {
            due(m / 4, "ofMutant", m, 0);
            due(ways[m], "ofMutant", m, 1);
        }
        due(UNKNOWN, "ofMutant", 20, 0);
        due(UNKNOWN, "ofMutant", -1, 0);
    }

    /** TESTS KILL a MUTANT where the PROGRAM that goes that WAY itself has another OUTPUT. */
    private void dueAsProgram(int m, int k) {
        MutantRows x = Due.told(MOST);
        MutantRows changed = Due.told(MOST);
        changed.way(k, x.ofMutant(m, 1));
        for (int t = 0; t <= 6; t++) {
            boolean differs = changed.ofTest(t, 5) != x.ofTest(t, 5);
            is("state(" + m + ", " + t + ")", x.state(m, t) == 2 ? 1 : 0, differs ? 1 : 0);
        }
        int differences = 0;
        for (int xy = 0; xy < 100; xy++) {
            differences += changed.output(xy / 10, xy % 10) != x.output(xy / 10, xy % 10) ? 1 : 0;
        }
        is("ofMutant(" + m + ", 4)", x.ofMutant(m, 4), differences);
    }
}
