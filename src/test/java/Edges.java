import java.lang.reflect.Method;
import java.util.ArrayList;
import java.util.Arrays;
import java.util.List;
import java.util.Set;
import java.util.function.Supplier;

/**
 * Tests of the document's sentences, one behind another: each begins by sentence() or term(), which
 * name the promise and the words, and asks objects that no other one has used.
 */
abstract class Edges {
    static final int UNKNOWN = MutantRows.UNKNOWN, OUTSIDE = MutantRows.OUTSIDE, STATE = MutantRows.STATE,
            FULL = MutantRows.FULL, NONE = MutantRows.NONE;
    static final long LOST = MutantRows.LOST;
    static final int NULL = 1, CAST = 2, INDEX = 3, SIZE = 4;

    /** The farthest numbers: sums and differences of these wrap. */
    static final int LEAST = Integer.MIN_VALUE, GREATEST = Integer.MAX_VALUE;

    static final String SMALL = "m;axy;s0y,P312,S945,D207";
    static final String MOST = "m;axy;s0x;m1y;g21;l30,P112,S234,D356,P478,S590,D613,P735";

    private static final Method[] METHODS = Calls.methods(MutantRows.class);
    private static final Set<String> NAMING_FAULTS = Set.of("program", "day", "sheet", "put", "cell", "copy", "as");

    private final Sentences document;
    private final List<String> wrong = new ArrayList<>();
    private int asked;
    private int askedAhead;
    private int promise;
    private String name = "";
    private Supplier<MutantRows> made;
    private MutantRows object;

    Edges(Sentences document) {
        this.document = document;
    }

    abstract void ask();

    final List<String> wrong() {
        return wrong;
    }

    final int asked() {
        return asked;
    }

    // ---- naming

    final void promise(int number) {
        promise = number;
    }

    /** A sentence of the promise's own section. */
    final void sentence(String words) {
        begin("Promise " + promise, "promise " + promise + ": " + words, words);
    }

    /** A sentence of the section Terms, seen by the calls of a promise (0: of many). */
    final void term(int seenBy, String words) {
        promise = seenBy;
        begin("Terms", (seenBy == 0 ? "Terms: " : "Terms, by promise " + seenBy + ": ") + words, words);
    }

    /** A sentence of the section What it is, which binds every call. */
    final void about(String words) {
        promise = 0;
        begin("What it is", "What it is: " + words, words);
    }

    private void begin(String section, String newName, String words) {
        close();
        name = newName;
        askedAhead = asked;
        object = null;
        made = null;
        String why = document.name(section, words);
        if (!why.isEmpty()) {
            wrong.add(name + ": " + why);
        }
    }

    /** A sentence that asks nothing is no test. */
    final void close() {
        if (!name.isEmpty() && asked == askedAhead) {
            wrong.add(name + ": nothing was asked");
        }
    }

    // ---- asking

    /** All that follows is asked of an object that is made so. */
    final void from(Supplier<MutantRows> how) {
        made = how;
        object = how.get();
    }

    final void fromText(String text) {
        from(() -> told(text));
    }

    final void is(String what, long got, long want) {
        asked++;
        if (got != want) {
            wrong.add(name + ": " + what + " answered " + got + ", due is " + want);
        }
    }

    /** An answer of the object, which goes on. */
    final void due(long want, String call, int... args) {
        is(told(call, args), answer(object, call, args), want);
    }

    /** An answer, and what fault() tells behind it. */
    final void dueFault(long want, int fault, String call, int... args) {
        due(want, call, args);
        is("fault() behind " + told(call, args), object.fault(), fault);
    }

    /** A new object refuses: nothing is changed but fault(), of a call that names FAULTS. */
    final void refuses(long want, String call, int... args) {
        leavesAll(want, 0, call, args);
    }

    /** A new object comes to a FAULT: nothing is changed, and fault() tells it. */
    final void faults(int fault, String call, int... args) {
        leavesAll(call.equals("cell") ? LOST : -10 - fault, fault, call, args);
    }

    private void leavesAll(long want, int fault, String call, int... args) {
        leavesAllOf(made.get(), want, fault, call, args);
        // By another FAULT ahead: one that is merely left is not the right one twice.
        MutantRows behindSize = made.get();
        behindSize.sheet(0, 0, -1);
        leavesAllOf(behindSize, want, fault, call, args);
    }

    private void leavesAllOf(MutantRows x, long want, int fault, String call, int... args) {
        int ahead = x.fault();
        is(told(call, args), answer(x, call, args), want);
        is("fault() behind " + told(call, args), x.fault(), NAMING_FAULTS.contains(call) ? fault : ahead);
        boolean same = seen(x).equals(seen(made.get()));
        is("nothing changed by " + told(call, args), same ? 1 : 0, 1);
    }

    /** The argument at a place is refused next to lo .. hi, and far from it; at lo and hi it is not. */
    final void within(int lo, int hi, long refusal, String call, int place, int... args) {
        for (int v : new int[] {LEAST, lo - 1, hi + 1, GREATEST}) {
            refuses(refusal, call, with(v, place, args));
        }
        for (int v : new int[] {lo, hi}) {
            long got = answer(made.get(), call, with(v, place, args));
            is(told(call, with(v, place, args)) + " is refused", got == refusal ? 1 : 0, 0);
        }
    }

    private static int[] with(int v, int place, int... args) {
        int[] changed = args.clone();
        changed[place] = v;
        return changed;
    }

    static String told(String call, int... args) {
        return Calls.told(method(call), args);
    }

    static long answer(MutantRows x, String call, int... args) {
        return Calls.answer(method(call), x, args);
    }

    private static Method method(String call) {
        return Arrays.stream(METHODS).filter(m -> m.getName().equals(call)).findFirst()
                .orElseThrow(() -> new IllegalStateException("no call " + call));
    }

    // ---- objects to ask

    /** A PROGRAM of 2 STEPS and 3 TESTS; a SHEET of each LANE, SHEET 3 has nothing; a READING, a TRACE. */
    static MutantRows small() {
        MutantRows x = told(SMALL);
        Due.fill(x, 2, 2, 9, 10, 12, 20, 1, 0);
        x.reading(3);
        x.tell(2);
        return withFaultAhead(x);
    }

    /** As many STEPS, TESTS, READINGS as there can be. */
    static MutantRows most() {
        MutantRows x = told(MOST);
        for (int r = 0; r < 8; r++) {
            x.reading(4);
        }
        return withFaultAhead(x);
    }

    /** No PROGRAM, but SHEETS. */
    static MutantRows none() {
        MutantRows x = new MutantRows();
        Due.fill(x, 0, 0, "m;axy,P312".chars().toArray());
        Due.fill(x, 2, 2, 9, 10, 12, 20, 1, 0);
        return withFaultAhead(x);
    }

    static MutantRows told(String text) {
        return withFaultAhead(Due.told(text));
    }

    /** A PROGRAM, and pairs of a DAY as ints of SHEET 3. */
    static MutantRows withPairs(String text, int... cells) {
        MutantRows x = Due.told(text);
        Due.fill(x, 3, 2, cells);
        return withFaultAhead(x);
    }

    private static MutantRows withFaultAhead(MutantRows x) {
        Due.fill(x, 1, 1, 5, 6, 7);
        x.put(1, 3, 0);
        return x;
    }

    /** All that a change would show in, but fault(). */
    private static List<Long> seen(MutantRows x) {
        List<Long> all = new ArrayList<>();
        all.add((long) x.trace());
        for (int what = 0; what < 6; what++) {
            all.add((long) x.many(what));
        }
        for (int k = 0; k < x.many(0); k++) {
            for (int what = 0; what < 3; what++) {
                all.add((long) x.ofStep(k, what));
            }
        }
        for (int t = 0; t < x.many(1); t++) {
            for (int what = 0; what < 5; what++) {
                all.add((long) x.ofTest(t, what));
            }
        }
        all.add((long) x.kinds(0));
        all.add((long) x.ways(0));
        for (int k = 0; k < 4; k++) {
            addCells(all, x, k);
        }
        return all;
    }

    private static void addCells(List<Long> all, MutantRows x, int k) {
        for (int lane = 0; lane < 3; lane++) {
            long cell = x.cell(k, 0, lane);
            all.add(cell);
            all.add((long) x.fault());
            for (int i = 1; cell != LOST; i++) {
                cell = x.cell(k, i, lane);
                all.add(cell);
            }
        }
    }
}
