import java.lang.reflect.Method;
import java.util.ArrayList;
import java.util.List;

/** Any numbers to any call, in several states: none throws, and a refused one changes nothing. */
public final class WildCallsTest {
    private static final int TRIES = 400;
    private static final Due due = new Due("WildCallsTest");
    private static final Calls calls = new Calls(7);

    public static void main(String[] args) {
        for (int state = 0; state < 4; state++) {
            List<Long> before = seen(made(state));
            for (Method call : calls.ofClass) {
                for (int c = 0; c < TRIES; c++) {
                    tryOne(state, before, call, calls.wild(call));
                }
            }
        }
        due.end();
    }

    private static void tryOne(int state, List<Long> before, Method call, int[] args) {
        MutantRows x = made(state);
        long answer = Calls.answer(call, x, args);
        int fault = x.fault();
        boolean faulted = answer <= -11 && answer >= -14 && fault != 0;
        boolean refused = answer <= -1 && answer >= -4 && !call.getName().equals("cell") && !call.getName().equals("trace");
        if (faulted || refused || answer == MutantRows.LOST) {
            due.is("as before behind " + Calls.told(call, args), seen(x).equals(before) ? 1 : 0, 1);
        }
        if (faulted) {
            due.is("the FAULT of " + Calls.told(call, args), answer, -10 - fault);
        }
    }

    private static MutantRows made(int state) {
        MutantRows x = new MutantRows();
        if (state == 0) {
            return x;
        }
        Due.tell(x, state == 1 ? "m;axy,P312" : "m;axy;s0x;m1y;g21;l30,P112,S234,D356,P478,S590,D613,P735");
        Due.fill(x, 1, 1, 3, 0, 2, 10, 45, 20);
        if (state == 3) {
            Due.fill(x, 2, 2, new int[60]);
            x.reading(3);
            x.reading(4);
            x.tell(0);
            x.log(2);
        }
        return x;
    }

    /** What shows the state, but the latest FAULT; an object must do with 512 calls in all. */
    private static List<Long> seen(MutantRows x) {
        List<Long> all = new ArrayList<>();
        all.add((long) x.trace());
        for (int what = 0; what < 6; what++) {
            all.add((long) x.many(what));
        }
        for (int k = 0; k < 5; k++) {
            for (int what = 0; what < 3; what++) {
                all.add((long) x.ofStep(k, what));
            }
        }
        for (int t = 0; t < 7; t++) {
            for (int what = 0; what < 7; what++) {
                all.add((long) x.ofTest(t, what));
            }
        }
        for (int k = 0; k < 4; k++) {
            for (int lane = 0; lane < 3; lane++) {
                for (int i : new int[] {0, 1, 2, 3, 4, 5, 23, 59}) {
                    all.add(x.cell(k, i, lane));
                    all.add((long) x.fault());
                }
            }
        }
        all.add((long) x.kinds(0));
        all.add((long) x.ways(0));
        return all;
    }
}
