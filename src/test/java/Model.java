import java.util.ArrayList;
import java.util.Collections;
import java.util.LinkedHashSet;
import java.util.List;
import java.util.Set;
import java.util.function.IntSupplier;
import java.util.regex.Matcher;
import java.util.regex.Pattern;

/**
 * The document told a second time, in the plainest way: rows are the machine's own arrays and its
 * FAULTS the machine's own exceptions, kinds of TESTS are classes, sets are sets. Slow, for tests.
 */
public final class Model {
    private static final int UNKNOWN = -1, OUTSIDE = -2, STATE = -3, FULL = -4, NONE = -9;
    private static final long LOST = Long.MIN_VALUE;

    interface Logged {
        Model model();

        int kills();

        default int logged() {
            model().leave(4);
            return kills();
        }
    }

    static class Plain implements Logged {
        final Model model;
        final int time, x, y;

        Plain(Model model, int time, int x, int y) {
            this.model = model;
            this.time = time;
            this.x = x;
            this.y = y;
        }

        int weight() {
            return time;
        }

        int told() {
            model.leave(1);
            return time;
        }

        final int plainTold() {
            return new Plain(model, time, x, y).told();
        }

        @Override
        public Model model() {
            return model;
        }

        @Override
        public int kills() {
            return killedBy(model.steps, this).size();
        }
    }

    static class Slow extends Plain {
        Slow(Model model, int time, int x, int y) {
            super(model, time, x, y);
        }

        @Override
        int weight() {
            return time + 1;
        }

        @Override
        int told() {
            model.leave(2);
            return super.told() + 100;
        }
    }

    static final class Twice extends Slow {
        Twice(Model model, int time, int x, int y) {
            super(model, time, x, y);
        }

        @Override
        int weight() {
            return 2 * time;
        }

        @Override
        int told() {
            model.leave(3);
            return super.told() + plainTold();
        }

        @Override
        public int logged() {
            model.leave(5);
            return 60;
        }
    }

    record Step(char way, char first, char second) {
    }

    record Mutant(int step, char way) {
    }

    private final Object[] rows = new Object[4];
    private final List<Integer> readings = new ArrayList<>();
    private List<Step> steps = new ArrayList<>();
    private List<Plain> tests = new ArrayList<>();
    private int trace;
    private int fault;

    private void leave(int number) {
        trace = trace * 31 + number;
    }

    // ---- figures and sets, by their definitions

    static int made(char way, int a, int b) {
        return switch (way) {
            case 'a' -> Math.floorMod(a + b, 10);
            case 's' -> Math.floorMod(a - b, 10);
            case 'm' -> Math.floorMod(a * b, 10);
            case 'g' -> Math.max(a, b);
            default -> Math.min(a, b);
        };
    }

    static int figure(List<Step> steps, char source, int x, int y) {
        if (source == 'x') {
            return x;
        }
        if (source == 'y') {
            return y;
        }
        Step step = steps.get(source - '0');
        return made(step.way, figure(steps, step.first, x, y), figure(steps, step.second, x, y));
    }

    static char numbered(int step) {
        return (char) ('0' + step);
    }

    static int out(List<Step> steps, int x, int y) {
        return figure(steps, numbered(steps.size() - 1), x, y);
    }

    static List<Mutant> mutants(List<Step> steps) {
        List<Mutant> all = new ArrayList<>();
        for (int k = 0; k < steps.size(); k++) {
            for (char way : "asmgl".toCharArray()) {
                if (way != steps.get(k).way) {
                    all.add(new Mutant(k, way));
                }
            }
        }
        return all;
    }

    static List<Step> goingWay(List<Step> steps, int k, char way) {
        List<Step> changed = new ArrayList<>(steps);
        changed.set(k, new Step(way, steps.get(k).first, steps.get(k).second));
        return changed;
    }

    static boolean differs(List<Step> steps, Mutant m, int x, int y) {
        return out(goingWay(steps, m.step, m.way), x, y) != out(steps, x, y);
    }

    static int differences(List<Step> steps, Mutant m) {
        int count = 0;
        for (int x = 0; x < 10; x++) {
            for (int y = 0; y < 10; y++) {
                count += differs(steps, m, x, y) ? 1 : 0;
            }
        }
        return count;
    }

    static Set<Integer> killedBy(List<Step> steps, Plain test) {
        Set<Integer> killed = new LinkedHashSet<>();
        List<Mutant> all = mutants(steps);
        for (int m = 0; m < all.size(); m++) {
            if (differs(steps, all.get(m), test.x, test.y)) {
                killed.add(m);
            }
        }
        return killed;
    }

    /** Of each MUTANT the TESTS that KILL it. */
    static List<Set<Integer>> killers(List<Step> steps, List<Plain> tests) {
        List<Set<Integer>> killers = new ArrayList<>();
        for (int m = 0; m < 4 * steps.size(); m++) {
            killers.add(new LinkedHashSet<>());
        }
        for (int t = 0; t < tests.size(); t++) {
            for (int m : killedBy(steps, tests.get(t))) {
                killers.get(m).add(t);
            }
        }
        return killers;
    }

    static int bits(Set<Integer> set) {
        int bits = 0;
        for (int k : set) {
            bits += 1 << k;
        }
        return bits;
    }

    static boolean subsumes(List<Set<Integer>> killers, int m, int other) {
        return !killers.get(m).isEmpty() && killers.get(other).containsAll(killers.get(m));
    }

    static boolean isLeast(List<Set<Integer>> killers, int m) {
        boolean least = !killers.get(m).isEmpty();
        for (int by = 0; by < killers.size(); by++) {
            if (!killers.get(by).isEmpty() && subsumes(killers, by, m)) {
                least &= killers.get(by).equals(killers.get(m)) && by >= m;
            }
        }
        return least;
    }

    static int countKilled(List<Set<Integer>> killers) {
        return (int) killers.stream().filter(k -> !k.isEmpty()).count();
    }

    static int countEqual(List<Step> steps) {
        return (int) mutants(steps).stream().filter(m -> differences(steps, m) == 0).count();
    }

    static int weight(List<Plain> tests, int set) {
        int sum = 0;
        for (int t = 0; t < tests.size(); t++) {
            sum += (set & 1 << t) != 0 ? tests.get(t).weight() : 0;
        }
        return sum;
    }

    static int coverOf(List<Step> steps, List<Plain> tests) {
        List<Integer> sets = new ArrayList<>();
        List<Set<Integer>> killers = killers(steps, tests);
        for (int set = 0; set < 1 << tests.size(); set++) {
            boolean all = true;
            for (Set<Integer> by : killers) {
                all &= by.isEmpty() || (bits(by) & set) != 0;
            }
            if (all) {
                sets.add(set);
            }
        }
        return Collections.min(sets, (a, b) -> weight(tests, a) != weight(tests, b)
                ? Integer.compare(weight(tests, a), weight(tests, b)) : Integer.compare(a, b));
    }

    static List<Integer> choice(List<Step> steps, List<Plain> tests, int manner) {
        List<Integer> chosen = new ArrayList<>();
        Set<Integer> left = new LinkedHashSet<>();
        tests.forEach(t -> left.addAll(killedBy(steps, t)));
        while (!left.isEmpty()) {
            int best = -1;
            double bestValue = 0;
            for (int t = 0; t < tests.size(); t++) {
                Set<Integer> killed = killedBy(steps, tests.get(t));
                killed.retainAll(left);
                int weight = tests.get(t).weight();
                double value = manner == 0 ? killed.size() : manner == 1 ? 1000 - weight
                        : (double) killed.size() / weight;
                if (!killed.isEmpty() && (best < 0 || value > bestValue + 1e-9)) {
                    best = t;
                    bestValue = value;
                }
            }
            chosen.add(best);
            left.removeAll(killedBy(steps, tests.get(best)));
        }
        return chosen;
    }

    static long share(long upper, long lower, int which) {
        long g = java.math.BigInteger.valueOf(upper).gcd(java.math.BigInteger.valueOf(lower)).longValue();
        return which == 0 ? upper / g : lower / g;
    }

    // ---- the machine's rows

    private static boolean in(int v, int least, int greatest) {
        return least <= v && v <= greatest;
    }

    private int guarded(IntSupplier body) {
        try {
            return body.getAsInt();
        } catch (NullPointerException e) {
            fault = 1;
        } catch (ClassCastException | ArrayStoreException e) {
            fault = 2;
        } catch (NegativeArraySizeException e) {
            fault = 4;
        } catch (IndexOutOfBoundsException e) {
            fault = 3;
        }
        return -10 - fault;
    }

    /** Cells as ints, by the machine's own cast, lengths and copying. */
    private int[] taken(int sheet, int lane, int i, int n) {
        Object row = rows[sheet];
        Object part;
        if (lane == 0) {
            byte[] bytes = (byte[]) row;
            part = bytes.length < 0 ? null : new byte[smallSize(n)];
        } else if (lane == 1) {
            short[] shorts = (short[]) row;
            part = shorts.length < 0 ? null : new short[smallSize(n)];
        } else {
            int[] ints = (int[]) row;
            part = ints.length < 0 ? null : new int[smallSize(n)];
        }
        System.arraycopy(row, i, part, 0, n);
        int[] cells = new int[n];
        for (int c = 0; c < n; c++) {
            cells[c] = ((Number) java.lang.reflect.Array.get(part, c)).intValue();
        }
        return cells;
    }

    /** A length that no row has is as good as another: rooms of two thousand million are not made. */
    private static int smallSize(int n) {
        return Math.min(n, 1000);
    }

    // ---- 1 the program

    private static final String STEP = ";[asmgl][xy\\d][xy\\d]";
    private static final String TEST = ",[PSD][1-9]\\d\\d";

    /** Whether a TEXT can begin so: some filling of the rest makes it whole. */
    private static boolean canBegin(String start) {
        for (String end : List.of("", "m;axx,P111", ";axx,P111", "axx,P111", "xx,P111", "x,P111", ",P111", "P111", "111",
                "11", "1")) {
            if (isText(start + end)) {
                return true;
            }
        }
        return false;
    }

    private static boolean isText(String text) {
        Matcher whole = Pattern.compile("m((?:" + STEP + "){1,5})((?:" + TEST + "){1,7})", Pattern.DOTALL).matcher(text);
        if (!whole.matches()) {
            return false;
        }
        String told = whole.group(1);
        for (int k = 0; k < told.length() / 4; k++) {
            for (int c = 2; c < 4; c++) {
                char source = told.charAt(4 * k + c);
                if (Character.isDigit(source) && source >= numbered(k)) {
                    return false;
                }
            }
        }
        return true;
    }

    public int program(int sheet, int lane, int i, int n) {
        fault = 0;
        if (!in(sheet, 0, 3)) {
            return UNKNOWN;
        }
        if (!in(lane, 0, 2)) {
            return OUTSIDE;
        }
        return guarded(() -> readText(taken(sheet, lane, i, n)));
    }

    private int readText(int[] cells) {
        StringBuilder text = new StringBuilder();
        for (int c : cells) {
            text.append(in(c, 1, 126) ? (char) c : '?');
        }
        for (int place = 0; place < cells.length; place++) {
            if (!canBegin(text.substring(0, place + 1))) {
                return -100 - place;
            }
        }
        if (!isText(text.toString())) {
            return -100 - cells.length;
        }
        steps = new ArrayList<>();
        tests = new ArrayList<>();
        readings.clear();
        Matcher step = Pattern.compile(STEP).matcher(text);
        while (step.find()) {
            String s = step.group();
            steps.add(new Step(s.charAt(1), s.charAt(2), s.charAt(3)));
        }
        Matcher test = Pattern.compile(TEST).matcher(text);
        while (test.find()) {
            String s = test.group();
            tests.add(ofKind("PSD".indexOf(s.charAt(1)), s.charAt(2) - '0', s.charAt(3) - '0', s.charAt(4) - '0'));
        }
        return 4 * steps.size();
    }

    private Plain ofKind(int kind, int time, int x, int y) {
        return kind == 0 ? new Plain(this, time, x, y)
                : kind == 1 ? new Slow(this, time, x, y) : new Twice(this, time, x, y);
    }

    private static int kindOf(Plain test) {
        return test instanceof Twice ? 2 : test instanceof Slow ? 1 : 0;
    }

    private static int sourceOf(char source) {
        return source == 'x' ? 5 : source == 'y' ? 6 : source - '0';
    }

    private static int wayOf(char way) {
        return "asmgl".indexOf(way);
    }

    private static char wayNumbered(int v) {
        return "asmgl".charAt(v);
    }

    private boolean isStep(int k) {
        return in(k, 0, steps.size() - 1);
    }

    private boolean isTest(int t) {
        return in(t, 0, tests.size() - 1);
    }

    private boolean isMutant(int m) {
        return in(m, 0, 4 * steps.size() - 1);
    }

    public int ofStep(int k, int what) {
        if (!isStep(k)) {
            return UNKNOWN;
        }
        if (!in(what, 0, 2)) {
            return OUTSIDE;
        }
        Step step = steps.get(k);
        return List.of(wayOf(step.way), sourceOf(step.first), sourceOf(step.second)).get(what);
    }

    public int ofTest(int t, int what) {
        if (!isTest(t)) {
            return UNKNOWN;
        }
        if (!in(what, 0, 6)) {
            return OUTSIDE;
        }
        Plain test = tests.get(t);
        return List.of(kindOf(test), test.time, test.weight(), test.x, test.y, out(steps, test.x, test.y),
                bits(killedBy(steps, test))).get(what);
    }

    public int output(int x, int y) {
        return !in(x, 0, 9) || !in(y, 0, 9) ? OUTSIDE : steps.isEmpty() ? STATE : out(steps, x, y);
    }

    public int way(int k, int v) {
        if (!isStep(k)) {
            return UNKNOWN;
        }
        if (!in(v, 0, 4)) {
            return OUTSIDE;
        }
        int was = wayOf(steps.get(k).way);
        steps = goingWay(steps, k, wayNumbered(v));
        return was;
    }

    public int time(int t, int v) {
        if (!isTest(t)) {
            return UNKNOWN;
        }
        if (!in(v, 1, 9)) {
            return OUTSIDE;
        }
        Plain was = tests.get(t);
        tests.set(t, ofKind(kindOf(was), v, was.x, was.y));
        return was.time;
    }

    public int aim(int t, int x, int y) {
        if (!isTest(t)) {
            return UNKNOWN;
        }
        if (!in(x, 0, 9) || !in(y, 0, 9)) {
            return OUTSIDE;
        }
        Plain was = tests.get(t);
        tests.set(t, ofKind(kindOf(was), was.time, x, y));
        return 10 * was.x + was.y;
    }

    // ---- 2 mutants

    public int ofMutant(int m, int what) {
        if (!isMutant(m)) {
            return UNKNOWN;
        }
        if (!in(what, 0, 6)) {
            return OUTSIDE;
        }
        Mutant mutant = mutants(steps).get(m);
        List<Set<Integer>> killers = killers(steps, tests);
        int subsumed = 0;
        for (int other = 0; other < killers.size(); other++) {
            subsumed += subsumes(killers, m, other) ? 1 : 0;
        }
        int differences = differences(steps, mutant);
        return List.of(mutant.step, wayOf(mutant.way), bits(killers.get(m)), differences == 0 ? 1 : 0, differences,
                isLeast(killers, m) ? 1 : 0, subsumed).get(what);
    }

    public int state(int m, int t) {
        if (!isMutant(m) || !isTest(t)) {
            return UNKNOWN;
        }
        Mutant mutant = mutants(steps).get(m);
        Plain test = tests.get(t);
        if (differs(steps, mutant, test.x, test.y)) {
            return 2;
        }
        char itself = numbered(mutant.step);
        return figure(goingWay(steps, mutant.step, mutant.way), itself, test.x, test.y)
                != figure(steps, itself, test.x, test.y) ? 1 : 0;
    }

    public int subsumes(int m, int other) {
        return !isMutant(m) || !isMutant(other) ? UNKNOWN : subsumes(killers(steps, tests), m, other) ? 1 : 0;
    }

    public int hardest() {
        if (steps.isEmpty()) {
            return STATE;
        }
        List<Set<Integer>> killers = killers(steps, tests);
        for (int size = 1; size <= tests.size(); size++) {
            for (int m = 0; m < killers.size(); m++) {
                if (killers.get(m).size() == size) {
                    return m;
                }
            }
        }
        return NONE;
    }

    public int day(int sheet, int lane, int i, int n, int what) {
        fault = 0;
        if (!in(sheet, 0, 3)) {
            return UNKNOWN;
        }
        if (!in(lane, 0, 2) || !in(n, 0, 20) || !in(what, 0, 4) && !in(what, 10, 16)) {
            return OUTSIDE;
        }
        return guarded(() -> dayOf(taken(sheet, lane, i, 2 * n), what));
    }

    private int dayOf(int[] cells, int what) {
        if (steps.isEmpty()) {
            return STATE;
        }
        for (int c = 0; c < cells.length; c += 2) {
            int v = cells[c];
            int target = cells[c + 1];
            boolean fine = in(target, 0, 4) && in(v, 0, 4) || in(target, 10, 16) && in(v, 1, 9)
                    || in(target, 20, 26) && in(v, 0, 99);
            if (!fine) {
                return OUTSIDE;
            }
        }
        List<Step> stepsNow = steps;
        List<Plain> testsNow = tests;
        tests = new ArrayList<>(tests);
        int wrong = NONE;
        for (int c = 0; c < cells.length && wrong == NONE; c += 2) {
            int v = cells[c];
            int target = cells[c + 1];
            int done = target < 10 ? way(target, v) : target < 20 ? time(target - 10, v) : aim(target - 20, v / 10, v % 10);
            wrong = done < 0 ? c / 2 : NONE;
        }
        int answer = what == 1 ? wrong : wrong != NONE ? -100 - wrong : afterDay(what);
        steps = stepsNow;
        tests = testsNow;
        return answer;
    }

    private int afterDay(int what) {
        List<Set<Integer>> killers = killers(steps, tests);
        if (what >= 10) {
            return isTest(what - 10) ? ofTest(what - 10, 5) : NONE;
        }
        int least = 0;
        for (int m = 0; m < killers.size(); m++) {
            least += isLeast(killers, m) ? 1 : 0;
        }
        return what == 0 ? countKilled(killers) : what == 2 ? countEqual(steps) : what == 3 ? least : cover(1);
    }

    // ---- 3 tests

    public int cover(int what) {
        if (!in(what, 0, 2)) {
            return OUTSIDE;
        }
        if (steps.isEmpty()) {
            return STATE;
        }
        int set = coverOf(steps, tests);
        return what == 0 ? set : what == 1 ? weight(tests, set) : Integer.bitCount(set);
    }

    public int choose(int manner, int what) {
        if (!in(manner, 0, 2) || !in(what, 0, 1) && !in(what, 10, 16)) {
            return OUTSIDE;
        }
        if (steps.isEmpty()) {
            return STATE;
        }
        List<Integer> chosen = choice(steps, tests, manner);
        if (what >= 10) {
            return what - 10 < chosen.size() ? chosen.get(what - 10) : NONE;
        }
        int set = bits(new LinkedHashSet<>(chosen));
        return what == 0 ? set : weight(tests, set);
    }

    public long score(int which) {
        if (!in(which, 0, 1) || steps.isEmpty()) {
            return LOST;
        }
        int lower = 4 * steps.size() - countEqual(steps);
        return lower == 0 ? which : share(countKilled(killers(steps, tests)), lower, which);
    }

    // ---- 4 how light

    public int reading(int v) {
        if (steps.isEmpty()) {
            return STATE;
        }
        if (!in(v, 0, 200)) {
            return OUTSIDE;
        }
        if (readings.size() == 8) {
            return FULL;
        }
        readings.add(v);
        return readings.size();
    }

    public int back(int n) {
        if (!in(n, 0, readings.size())) {
            return OUTSIDE;
        }
        for (int k = 0; k < n; k++) {
            readings.remove(readings.size() - 1);
        }
        return readings.size();
    }

    private boolean fits(List<Step> steps, List<Plain> tests) {
        int weighs = weight(tests, coverOf(steps, tests));
        return readings.stream().allMatch(v -> v == weighs);
    }

    public int kinds(int t) {
        if (!isTest(t)) {
            return UNKNOWN;
        }
        int set = 0;
        for (int kind = 0; kind < 3; kind++) {
            List<Plain> changed = new ArrayList<>(tests);
            Plain was = tests.get(t);
            changed.set(t, ofKind(kind, was.time, was.x, was.y));
            set |= fits(steps, changed) ? 1 << kind : 0;
        }
        return set;
    }

    public int ways(int k) {
        if (!isStep(k)) {
            return UNKNOWN;
        }
        int set = 0;
        for (int way = 0; way < 5; way++) {
            set |= fits(goingWay(steps, k, wayNumbered(way)), tests) ? 1 << way : 0;
        }
        return set;
    }

    public long odds(int m, int which) {
        return !isMutant(m) || !in(which, 0, 1) ? LOST : share(differences(steps, mutants(steps).get(m)), 100, which);
    }

    // ---- 5 sheets, parts

    public int sheet(int k, int lane, int n) {
        fault = 0;
        if (!in(k, 0, 3)) {
            return UNKNOWN;
        }
        if (!in(lane, 0, 2) || n > 60) {
            return OUTSIDE;
        }
        return guarded(() -> {
            rows[k] = lane == 0 ? new byte[n] : lane == 1 ? new short[n] : new int[n];
            return 1;
        });
    }

    public int lose(int k) {
        if (!in(k, 0, 3)) {
            return UNKNOWN;
        }
        int had = rows[k] == null ? 0 : 1;
        rows[k] = null;
        return had;
    }

    public int put(int k, int i, int v) {
        fault = 0;
        if (!in(k, 0, 3)) {
            return UNKNOWN;
        }
        return guarded(() -> {
            if (rows[k] instanceof byte[] bytes) {
                bytes[i] = (byte) v;
            } else if (rows[k] instanceof short[] shorts) {
                shorts[i] = (short) v;
            } else {
                ((int[]) rows[k])[i] = v;
            }
            return 1;
        });
    }

    public long cell(int k, int i, int lane) {
        fault = 0;
        if (!in(k, 0, 3) || !in(lane, 0, 2)) {
            return LOST;
        }
        int[] found = new int[1];
        guarded(() -> {
            found[0] = lane == 0 ? ((byte[]) rows[k])[i] : lane == 1 ? ((short[]) rows[k])[i] : ((int[]) rows[k])[i];
            return 1;
        });
        return fault == 0 ? found[0] : LOST;
    }

    public int copy(int k, int i, int other, int j, int n) {
        fault = 0;
        if (!in(k, 0, 3) || !in(other, 0, 3)) {
            return UNKNOWN;
        }
        return guarded(() -> {
            System.arraycopy(rows[k], i, rows[other], j, n);
            return n;
        });
    }

    public int tell(int t) {
        return isTest(t) ? tests.get(t).told() : UNKNOWN;
    }

    public int log(int t) {
        return isTest(t) ? tests.get(t).logged() : UNKNOWN;
    }

    public int as(int t, int kind) {
        fault = 0;
        if (!isTest(t)) {
            return UNKNOWN;
        }
        if (!in(kind, 0, 2)) {
            return OUTSIDE;
        }
        return guarded(() -> {
            Plain test = tests.get(t);
            Plain taken = kind == 0 ? test : kind == 1 ? (Slow) test : (Twice) test;
            return taken == test ? 1 : 0;
        });
    }

    public int trace() {
        return trace;
    }

    public int fault() {
        return fault;
    }

    public int many(int what) {
        return switch (what) {
            case 0 -> steps.size();
            case 1 -> tests.size();
            case 2 -> 4 * steps.size();
            case 3 -> countKilled(killers(steps, tests));
            case 4 -> countEqual(steps);
            case 5 -> readings.size();
            default -> OUTSIDE;
        };
    }
}
