import java.lang.reflect.Method;

/** Long runs of calls on the class and on the Model: each answer is the same. */
public final class ModelTest {
    private static final int RUNS = 400, MOST_CALLS = 500;
    private static final Due due = new Due("ModelTest");

    private final Calls calls;
    private final MutantRows rows = new MutantRows();
    private final Model model = new Model();
    private final StringBuilder told = new StringBuilder();
    private int count;

    private ModelTest(long seed) {
        calls = new Calls(seed);
    }

    public static void main(String[] args) {
        sameFace();
        for (long seed = 1; seed <= RUNS; seed++) {
            new ModelTest(seed).run();
        }
        due.end();
    }

    private static void sameFace() {
        Method[] ofClass = Calls.methods(MutantRows.class);
        Method[] ofModel = Calls.methods(Model.class);
        due.is("calls", ofClass.length, 31);
        for (int c = 0; c < ofClass.length; c++) {
            boolean same = ofClass[c].getName().equals(ofModel[c].getName());
            due.is("the Model has " + ofClass[c].getName(), same ? 1 : 0, 1);
        }
    }

    private void run() {
        while (count < MOST_CALLS - 130) {
            int act = calls.below(12);
            if (act == 0) {
                tell(calls.below(3) == 0 ? calls.almostText() : calls.text());
            } else if (act == 1) {
                live(calls.pairs());
            }
            for (int c = calls.below(20); c >= 0; c--) {
                Method call = calls.ofClass[calls.below(calls.ofClass.length)];
                ask(call.getName(), calls.some(call));
            }
            if (calls.below(4) == 0) {
                readWeight();
            }
        }
    }

    private void tell(String text) {
        int lane = calls.below(3);
        int from = calls.below(3);
        fill(lane, ("?".repeat(from) + text).chars().toArray());
        ask("program", 0, lane, from, text.length());
    }

    private void live(int[] cells) {
        fill(2, cells);
        for (int what = 0; what < 5; what++) {
            ask("day", 0, 2, 0, cells.length / 2, what);
        }
        ask("day", 0, 2, 0, cells.length / 2, 10 + calls.below(7));
    }

    private void fill(int lane, int... cells) {
        ask("sheet", 0, lane, Math.min(60, cells.length));
        for (int i = 0; i < cells.length; i++) {
            ask("put", 0, i, cells[i]);
        }
    }

    /** READINGS by chance say nothing: mostly what COVER weighs in some way is read. */
    private void readWeight() {
        ask("cover", 1);
        int weight = rows.cover(1) + calls.below(2);
        ask("reading", weight);
        for (int k = 0; k < 3; k++) {
            ask("kinds", k);
            ask("ways", k);
        }
        ask("back", calls.below(3));
    }

    private void ask(String name, int... args) {
        for (int c = 0; c < calls.ofClass.length; c++) {
            if (calls.ofClass[c].getName().equals(name)) {
                count++;
                String call = Calls.told(calls.ofClass[c], args);
                told.append(' ').append(call);
                long got = Calls.answer(calls.ofClass[c], rows, args);
                long want = Calls.answer(calls.ofModel[c], model, args);
                due.is(got == want ? call : told.toString(), got, want);
                return;
            }
        }
        throw new IllegalStateException("no call " + name);
    }
}
