/** Promises 27 to 30 and 32: TELLING, LOGGED, kinds, TRACE, how many. */
public final class PartsTest {
    private static final Due due = new Due("PartsTest");

    private static final String KINDS = "m;axy,P312,S450,D801";

    public static void main(String[] args) {
        telling();
        logged();
        traceWraps();
        traceStays();
        taken();
        howMany();
        due.end();
    }

    private static int traceOf(int from, int... bodies) {
        int trace = from;
        for (int body : bodies) {
            trace = 31 * trace + body;
        }
        return trace;
    }

    private static void telling() {
        MutantRows plain = Due.told(KINDS);
        due.is("tell of a PLAIN one", plain.tell(0), 3);
        due.is("TRACE", plain.trace(), 1);
        MutantRows slow = Due.told(KINDS);
        due.is("tell of a SLOW one", slow.tell(1), 104);
        due.is("TRACE", slow.trace(), 31 * 2 + 1);
        MutantRows twice = Due.told(KINDS);
        due.is("tell of a DOUBLE one", twice.tell(2), 116);
        due.is("TRACE", twice.trace(), traceOf(0, 3, 2, 1, 1));
        twice.time(2, 1);
        due.is("tell by another TIME", twice.tell(2), 102);
        due.is("tell(3)", twice.tell(3), MutantRows.UNKNOWN);
        due.is("tell(-1)", twice.tell(-1), MutantRows.UNKNOWN);
        due.is("TRACE behind these", twice.trace(), traceOf(0, 3, 2, 1, 1, 3, 2, 1, 1));
    }

    private static void logged() {
        MutantRows x = Due.told(KINDS);
        due.is("log of a PLAIN one", x.log(0), 4);
        due.is("TRACE", x.trace(), 4);
        due.is("log of a SLOW one", x.log(1), 2);
        due.is("TRACE", x.trace(), traceOf(0, 4, 4));
        due.is("log of a DOUBLE one", x.log(2), 60);
        due.is("TRACE", x.trace(), traceOf(0, 4, 4, 5));
        x.aim(0, 0, 0);
        due.is("log of one that KILLS none", x.log(0), 0);
        due.is("log(3)", x.log(3), MutantRows.UNKNOWN);
        due.is("log(-1)", x.log(-1), MutantRows.UNKNOWN);
        due.is("TRACE behind these", x.trace(), traceOf(0, 4, 4, 5, 4));
        due.is("log without a PROGRAM", new MutantRows().log(0), MutantRows.UNKNOWN);
    }

    private static void traceWraps() {
        MutantRows x = Due.told(KINDS);
        int trace = 0;
        for (int c = 0; c < 20; c++) {
            x.tell(2);
            trace = traceOf(trace, 3, 2, 1, 1);
            due.is("TRACE that wraps", x.trace(), trace);
        }
    }

    private static void traceStays() {
        MutantRows x = Due.told(KINDS);
        x.tell(0);
        Due.tell(x, "m;gxy,P111");
        x.ofTest(0, 2);
        x.as(0, 0);
        x.kinds(0);
        due.is("TRACE behind calls that tell nothing", x.trace(), 1);
    }

    private static void taken() {
        MutantRows x = Due.told(KINDS);
        for (int t = 0; t < 3; t++) {
            for (int kind = 0; kind < 3; kind++) {
                boolean fine = kind <= t;
                due.faults("as(" + t + ", " + kind + ")", x, x.as(t, kind), fine ? 1 : -12, fine ? 0 : 2);
            }
        }
        due.faults("as(0, 3)", x, x.as(0, 3), MutantRows.OUTSIDE, 0);
        due.is("CAST", x.as(0, 2), -12);
        due.faults("as(0, -1)", x, x.as(0, -1), MutantRows.OUTSIDE, 0);
        due.is("CAST", x.as(0, 2), -12);
        due.faults("as(3, 9)", x, x.as(3, 9), MutantRows.UNKNOWN, 0);
        due.faults("as(-1, 0)", x, x.as(-1, 0), MutantRows.UNKNOWN, 0);
    }

    private static void howMany() {
        MutantRows x = Due.told("m;gxx;a0y,P110,S100");
        // At 1 0 STEP 0 makes 1 (a 2, s 0, m 1, l 1), STEP 1 makes 1 (s 1, m 0, g 1, l 0).
        int[] wanted = {2, 2, 8, 4, 1, 0};
        for (int what = 0; what < 6; what++) {
            due.is("many(" + what + ")", x.many(what), wanted[what]);
        }
        due.is("many(-1)", x.many(-1), MutantRows.OUTSIDE);
        due.is("many(6)", x.many(6), MutantRows.OUTSIDE);
        due.is("many(6) without a PROGRAM", new MutantRows().many(6), MutantRows.OUTSIDE);
        x.reading(0);
        due.is("READINGS", x.many(5), 1);
    }
}
