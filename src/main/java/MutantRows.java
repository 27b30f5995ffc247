/**
 * Mutants of a small program and the tests that kill them; ../shared/DOC.md has the promises.
 *
 * Nothing is made after the constructor: every row is made once and used again, since all calls
 * of a run share one room.
 */
public final class MutantRows {
    public static final int UNKNOWN = -1, OUTSIDE = -2, STATE = -3, FULL = -4, NONE = -9;
    public static final long LOST = Long.MIN_VALUE;

    private static final int NULL = 1, CAST = 2, INDEX = 3, SIZE = 4;

    private static final int SHEETS = 4, LANES = 3, MOST_CELLS = 60;
    private static final int WAYS = 5, KINDS = 3, FIGURES = 10, ALL_INPUTS = 100;
    private static final int MOST_STEPS = 5, MOST_TESTS = 7, MUTANTS_A_STEP = 4, MOST_MUTANTS = 20;
    private static final int MOST_PAIRS = 20, MOST_READINGS = 8, MOST_READ = 200;

    /** What a SOURCE is told as, beside STEPS; these are places in a row of figures, too. */
    private static final int SOURCE_X = 5, SOURCE_Y = 6, PLACES = 7;

    private static final int PLAIN = 0, SLOW = 1, DOUBLE = 2;

    /** Of an act of a DAY: where the numbers begin that mean a TEST's TIME and its INPUTS. */
    private static final int TIMES_FROM = 10, INPUTS_FROM = 20;

    /** From here on a question asks for one of several: the TEST that is so much less. */
    private static final int ONE_FROM = 10;

    private final Sheet[] sheets;
    private final Program now;
    /** Where that is tried which must not change what is now. */
    private final Program trial;
    private final TextReader reader;
    private final Kills kills;
    private final int[] readingRow;
    private int readingCount;
    private int traced;
    private int latestFault;

    public MutantRows() {
        sheets = new Sheet[SHEETS];
        for (int k = 0; k < SHEETS; k++) {
            sheets[k] = new Sheet();
        }
        now = new Program();
        trial = new Program();
        reader = new TextReader();
        kills = new Kills();
        readingRow = new int[MOST_READINGS];
    }

    // ---- 1 the program

    public int program(int sheet, int lane, int i, int n) {
        latestFault = 0;
        if (!isSheet(sheet)) {
            return UNKNOWN;
        }
        if (!isWithin(lane, 0, LANES - 1)) {
            return OUTSIDE;
        }
        Sheet row = sheets[sheet];
        int wrong = row.faultAs(lane);
        if (wrong == 0 && n < 0) {
            wrong = SIZE;
        }
        if (wrong == 0 && !row.hasCells(i, n)) {
            wrong = INDEX;
        }
        if (wrong != 0) {
            return faulted(wrong);
        }
        if (!reader.reads(row, i, n)) {
            return -100 - reader.place;
        }
        now.becomeLike(reader.told);
        readingCount = 0;
        return now.mutants();
    }

    public int ofStep(int k, int what) {
        if (!now.hasStep(k)) {
            return UNKNOWN;
        }
        switch (what) {
            case 0: return now.stepWays[k];
            case 1: return now.firsts[k];
            case 2: return now.seconds[k];
            default: return OUTSIDE;
        }
    }

    public int ofTest(int t, int what) {
        if (!now.hasTest(t)) {
            return UNKNOWN;
        }
        switch (what) {
            case 0: return now.testKinds[t];
            case 1: return now.times[t];
            case 2: return now.weight(t);
            case 3: return now.xs[t];
            case 4: return now.ys[t];
            case 5: return now.runTest(t);
            case 6: return now.killedByTest(t);
            default: return OUTSIDE;
        }
    }

    public int output(int x, int y) {
        if (!isFigure(x) || !isFigure(y)) {
            return OUTSIDE;
        }
        if (now.isEmpty()) {
            return STATE;
        }
        return now.run(x, y);
    }

    public int way(int k, int v) {
        if (!now.hasStep(k)) {
            return UNKNOWN;
        }
        if (!isWithin(v, 0, WAYS - 1)) {
            return OUTSIDE;
        }
        int was = now.stepWays[k];
        now.stepWays[k] = v;
        return was;
    }

    public int time(int t, int v) {
        if (!now.hasTest(t)) {
            return UNKNOWN;
        }
        if (!isTime(v)) {
            return OUTSIDE;
        }
        int was = now.times[t];
        now.times[t] = v;
        return was;
    }

    public int aim(int t, int x, int y) {
        if (!now.hasTest(t)) {
            return UNKNOWN;
        }
        if (!isFigure(x) || !isFigure(y)) {
            return OUTSIDE;
        }
        int was = FIGURES * now.xs[t] + now.ys[t];
        now.xs[t] = x;
        now.ys[t] = y;
        return was;
    }

    // ---- 2 mutants

    public int ofMutant(int m, int what) {
        if (!now.hasMutant(m)) {
            return UNKNOWN;
        }
        switch (what) {
            case 0: return now.stepOf(m);
            case 1: return now.otherWay(m);
            case 2: return killsNow().byMutant[m];
            case 3: return oneIf(now.differences(m) == 0);
            case 4: return now.differences(m);
            case 5: return oneIf(killsNow().isLeast(m));
            case 6: return killsNow().countSubsumed(m);
            default: return OUTSIDE;
        }
    }

    public int state(int m, int t) {
        if (!now.hasMutant(m) || !now.hasTest(t)) {
            return UNKNOWN;
        }
        now.runTest(t);
        return now.effect(m);
    }

    public int subsumes(int m, int other) {
        if (!now.hasMutant(m) || !now.hasMutant(other)) {
            return UNKNOWN;
        }
        return oneIf(killsNow().isSubsumed(other, m));
    }

    public int hardest() {
        if (now.isEmpty()) {
            return STATE;
        }
        return killsNow().hardestMutant();
    }

    public int day(int sheet, int lane, int i, int n, int what) {
        latestFault = 0;
        if (!isSheet(sheet)) {
            return UNKNOWN;
        }
        if (!isWithin(lane, 0, LANES - 1) || !isWithin(n, 0, MOST_PAIRS) || !isOfDay(what)) {
            return OUTSIDE;
        }
        Sheet row = sheets[sheet];
        int wrong = row.faultAs(lane);
        if (wrong == 0 && !row.hasCells(i, 2 * n)) {
            wrong = INDEX;
        }
        if (wrong != 0) {
            return faulted(wrong);
        }
        if (now.isEmpty()) {
            return STATE;
        }
        if (!areActs(row, i, n)) {
            return OUTSIDE;
        }
        int firstWrong = tryActs(row, i, n);
        if (what == 1) {
            return firstWrong;
        }
        return firstWrong == NONE ? ofTrial(what) : -100 - firstWrong;
    }

    // ---- 3 tests

    public int cover(int what) {
        if (!isWithin(what, 0, 2)) {
            return OUTSIDE;
        }
        if (now.isEmpty()) {
            return STATE;
        }
        int set = killsNow().lightestTests();
        switch (what) {
            case 0: return set;
            case 1: return kills.weightOf(set);
            default: return Integer.bitCount(set);
        }
    }

    public int choose(int manner, int what) {
        boolean asksForOne = isWithin(what, ONE_FROM, ONE_FROM + MOST_TESTS - 1);
        if (!isWithin(manner, 0, 2) || !(asksForOne || isWithin(what, 0, 1))) {
            return OUTSIDE;
        }
        if (now.isEmpty()) {
            return STATE;
        }
        int count = killsNow().chooseTests(manner);
        if (asksForOne) {
            return what - ONE_FROM < count ? kills.chosen[what - ONE_FROM] : NONE;
        }
        int set = kills.chosenSet(count);
        return what == 0 ? set : kills.weightOf(set);
    }

    public long score(int which) {
        if (!isWithin(which, 0, 1) || now.isEmpty()) {
            return LOST;
        }
        int killed = Integer.bitCount(killsNow().killed);
        return share(killed, Integer.bitCount(now.unequalMutants()), which);
    }

    // ---- 4 how light

    public int reading(int v) {
        if (now.isEmpty()) {
            return STATE;
        }
        if (!isWithin(v, 0, MOST_READ)) {
            return OUTSIDE;
        }
        if (readingCount >= MOST_READINGS) {
            return FULL;
        }
        readingRow[readingCount] = v;
        readingCount++;
        return readingCount;
    }

    public int back(int n) {
        if (!isWithin(n, 0, readingCount)) {
            return OUTSIDE;
        }
        readingCount -= n;
        return readingCount;
    }

    public int kinds(int t) {
        if (!now.hasTest(t)) {
            return UNKNOWN;
        }
        trial.becomeLike(now);
        int set = 0;
        for (int kind = 0; kind < KINDS; kind++) {
            trial.testKinds[t] = kind;
            if (fitsReadings()) {
                set |= 1 << kind;
            }
        }
        return set;
    }

    public int ways(int k) {
        if (!now.hasStep(k)) {
            return UNKNOWN;
        }
        trial.becomeLike(now);
        int set = 0;
        for (int way = 0; way < WAYS; way++) {
            trial.stepWays[k] = way;
            if (fitsReadings()) {
                set |= 1 << way;
            }
        }
        return set;
    }

    public long odds(int m, int which) {
        if (!now.hasMutant(m) || !isWithin(which, 0, 1)) {
            return LOST;
        }
        return share(now.differences(m), ALL_INPUTS, which);
    }

    // ---- 5 sheets, parts

    public int sheet(int k, int lane, int n) {
        latestFault = 0;
        if (!isSheet(k)) {
            return UNKNOWN;
        }
        if (!isWithin(lane, 0, LANES - 1) || n > MOST_CELLS) {
            return OUTSIDE;
        }
        if (n < 0) {
            return faulted(SIZE);
        }
        sheets[k].renew(lane, n);
        return 1;
    }

    public int lose(int k) {
        if (!isSheet(k)) {
            return UNKNOWN;
        }
        int had = oneIf(!sheets[k].isNothing());
        sheets[k].becomeNothing();
        return had;
    }

    public int put(int k, int i, int v) {
        latestFault = 0;
        if (!isSheet(k)) {
            return UNKNOWN;
        }
        Sheet row = sheets[k];
        if (row.isNothing()) {
            return faulted(NULL);
        }
        if (!row.hasCell(i)) {
            return faulted(INDEX);
        }
        row.cells[i] = row.cut(v);
        return 1;
    }

    public long cell(int k, int i, int lane) {
        latestFault = 0;
        if (!isSheet(k) || !isWithin(lane, 0, LANES - 1)) {
            return LOST;
        }
        Sheet row = sheets[k];
        latestFault = row.faultAs(lane);
        if (latestFault == 0 && !row.hasCell(i)) {
            latestFault = INDEX;
        }
        return latestFault == 0 ? row.cells[i] : LOST;
    }

    public int copy(int k, int i, int other, int j, int n) {
        latestFault = 0;
        if (!isSheet(k) || !isSheet(other)) {
            return UNKNOWN;
        }
        Sheet from = sheets[k];
        Sheet to = sheets[other];
        if (from.isNothing() || to.isNothing()) {
            return faulted(NULL);
        }
        if (from.lane != to.lane) {
            return faulted(CAST);
        }
        if (!from.hasCells(i, n) || !to.hasCells(j, n)) {
            return faulted(INDEX);
        }
        System.arraycopy(from.cells, i, to.cells, j, n);
        return n;
    }

    public int tell(int t) {
        if (!now.hasTest(t)) {
            return UNKNOWN;
        }
        switch (now.testKinds[t]) {
            case PLAIN: return tellPlain(t);
            case SLOW: return tellSlow(t);
            default: return tellDouble(t);
        }
    }

    public int log(int t) {
        if (!now.hasTest(t)) {
            return UNKNOWN;
        }
        return now.testKinds[t] == DOUBLE ? logDouble() : logLent(t);
    }

    public int as(int t, int kind) {
        latestFault = 0;
        if (!now.hasTest(t)) {
            return UNKNOWN;
        }
        if (!isWithin(kind, 0, KINDS - 1)) {
            return OUTSIDE;
        }
        // Each kind is one of all the kinds ahead of it, too.
        return now.testKinds[t] >= kind ? 1 : faulted(CAST);
    }

    public int trace() {
        return traced;
    }

    public int fault() {
        return latestFault;
    }

    public int many(int what) {
        switch (what) {
            case 0: return now.steps;
            case 1: return now.tests;
            case 2: return now.mutants();
            case 3: return Integer.bitCount(killsNow().killed);
            case 4: return now.countEqual();
            case 5: return readingCount;
            default: return OUTSIDE;
        }
    }

    // ---- what several calls use

    private static boolean isWithin(int v, int least, int greatest) {
        return v >= least && v <= greatest;
    }

    private static boolean isSheet(int k) {
        return isWithin(k, 0, SHEETS - 1);
    }

    private static boolean isFigure(int v) {
        return isWithin(v, 0, FIGURES - 1);
    }

    private static boolean isTime(int v) {
        return isWithin(v, 1, 9);
    }

    private static int oneIf(boolean holds) {
        return holds ? 1 : 0;
    }

    /** The upper or lower number of a share in least terms; a share of nothing is 0 and 1. */
    private static long share(int upper, int lower, int which) {
        if (lower <= 0) {
            return which;
        }
        int shared = 1;
        for (int d = 2; d <= lower; d++) {
            if (upper % d == 0 && lower % d == 0) {
                shared = d;
            }
        }
        return which == 0 ? upper / shared : lower / shared;
    }

    private int faulted(int which) {
        latestFault = which;
        return -10 - which;
    }

    private Kills killsNow() {
        kills.find(now);
        return kills;
    }

    // ---- a DAY

    private static boolean isOfDay(int what) {
        return isWithin(what, 0, 4) || isWithin(what, ONE_FROM, ONE_FROM + MOST_TESTS - 1);
    }

    private static boolean isAct(int v, int target) {
        if (isWithin(target, 0, MOST_STEPS - 1)) {
            return isWithin(v, 0, WAYS - 1);
        }
        if (isWithin(target, TIMES_FROM, TIMES_FROM + MOST_TESTS - 1)) {
            return isTime(v);
        }
        return isWithin(target, INPUTS_FROM, INPUTS_FROM + MOST_TESTS - 1)
                && isWithin(v, 0, ALL_INPUTS - 1);
    }

    private static boolean areActs(Sheet row, int i, int n) {
        for (int p = 0; p < n; p++) {
            if (!isAct(row.cells[i + 2 * p], row.cells[i + 2 * p + 1])) {
                return false;
            }
        }
        return true;
    }

    /** Does a DAY's acts on the trial, not on what is now: the FIRST WRONG, or NONE. */
    private int tryActs(Sheet row, int i, int n) {
        trial.becomeLike(now);
        for (int p = 0; p < n; p++) {
            if (!trial.act(row.cells[i + 2 * p], row.cells[i + 2 * p + 1])) {
                return p;
            }
        }
        return NONE;
    }

    private int ofTrial(int what) {
        if (what >= ONE_FROM) {
            int t = what - ONE_FROM;
            return trial.hasTest(t) ? trial.runTest(t) : NONE;
        }
        if (what == 2) {
            return trial.countEqual();
        }
        kills.find(trial);
        switch (what) {
            case 0: return Integer.bitCount(kills.killed);
            case 3: return kills.countLeast();
            default: return kills.weightOf(kills.lightestTests());
        }
    }

    // ---- READINGS

    private boolean fitsReadings() {
        if (readingCount == 0) {
            return true;
        }
        kills.find(trial);
        int weight = kills.weightOf(kills.lightestTests());
        for (int r = 0; r < readingCount; r++) {
            if (readingRow[r] != weight) {
                return false;
            }
        }
        return true;
    }

    // ---- TELLING

    private void leave(int body) {
        traced = 31 * traced + body;
    }

    private int tellPlain(int t) {
        leave(1);
        return now.times[t];
    }

    private int tellSlow(int t) {
        leave(2);
        return tellPlain(t) + 100;
    }

    private int tellDouble(int t) {
        leave(3);
        return tellSlow(t) + tellPlain(t);
    }

    private int logLent(int t) {
        leave(4);
        return Integer.bitCount(now.killedByTest(t));
    }

    private int logDouble() {
        leave(5);
        return 60;
    }

    /** A row of numbers of one LANE, or nothing. */
    private static final class Sheet {
        static final int NO_LANE = -1;

        final int[] cells = new int[MOST_CELLS];
        int lane = NO_LANE;
        int length;

        boolean isNothing() {
            return lane == NO_LANE;
        }

        void becomeNothing() {
            lane = NO_LANE;
            length = 0;
        }

        void renew(int newLane, int n) {
            lane = newLane;
            length = n;
            for (int i = 0; i < n; i++) {
                cells[i] = 0;
            }
        }

        /** The FAULT of taking this as a row of a LANE, or 0; nothing can be taken as any. */
        int faultAs(int wanted) {
            if (isNothing()) {
                return NULL;
            }
            return lane == wanted ? 0 : CAST;
        }

        boolean hasCell(int i) {
            return i >= 0 && i < length;
        }

        /** Told by differences, since i and n together may wrap. */
        boolean hasCells(int i, int n) {
            return i >= 0 && i <= length && n >= 0 && n <= length - i;
        }

        int cut(int v) {
            switch (lane) {
                case 0: return (byte) v;
                case 1: return (short) v;
                default: return v;
            }
        }
    }

    /** A PROGRAM and its TESTS. */
    private static final class Program {
        static final int UNTOUCHED = 0, INFECTED = 1, KILLED = 2;

        final int[] stepWays = new int[MOST_STEPS];
        final int[] firsts = new int[MOST_STEPS];
        final int[] seconds = new int[MOST_STEPS];
        int steps;

        final int[] testKinds = new int[MOST_TESTS];
        final int[] times = new int[MOST_TESTS];
        final int[] xs = new int[MOST_TESTS];
        final int[] ys = new int[MOST_TESTS];
        int tests;

        /** What each STEP made for the latest INPUTS, and these; then the same for a MUTANT. */
        final int[] figures = new int[PLACES];
        final int[] mutated = new int[PLACES];

        void becomeEmpty() {
            steps = 0;
            tests = 0;
        }

        void becomeLike(Program other) {
            steps = other.steps;
            for (int k = 0; k < steps; k++) {
                stepWays[k] = other.stepWays[k];
                firsts[k] = other.firsts[k];
                seconds[k] = other.seconds[k];
            }
            tests = other.tests;
            for (int t = 0; t < tests; t++) {
                testKinds[t] = other.testKinds[t];
                times[t] = other.times[t];
                xs[t] = other.xs[t];
                ys[t] = other.ys[t];
            }
        }

        boolean isEmpty() {
            return steps == 0;
        }

        boolean hasStep(int k) {
            return k >= 0 && k < steps;
        }

        boolean hasTest(int t) {
            return t >= 0 && t < tests;
        }

        boolean hasMutant(int m) {
            return m >= 0 && m < mutants();
        }

        int mutants() {
            return MUTANTS_A_STEP * steps;
        }

        int allMutants() {
            return (1 << mutants()) - 1;
        }

        int stepOf(int m) {
            return m / MUTANTS_A_STEP;
        }

        int otherWay(int m) {
            int place = m % MUTANTS_A_STEP;
            return place < stepWays[m / MUTANTS_A_STEP] ? place : place + 1;
        }

        int weight(int t) {
            switch (testKinds[t]) {
                case PLAIN: return times[t];
                case SLOW: return times[t] + 1;
                default: return 2 * times[t];
            }
        }

        static int make(int stepWay, int first, int second) {
            switch (stepWay) {
                case 0: return (first + second) % FIGURES;
                case 1: return first < second ? first - second + FIGURES : first - second;
                case 2: return first * second % FIGURES;
                case 3: return first > second ? first : second;
                default: return first < second ? first : second;
            }
        }

        /** The OUTPUT for INPUTS; what each STEP made stays in figures. */
        int run(int x, int y) {
            figures[SOURCE_X] = x;
            figures[SOURCE_Y] = y;
            int made = 0;
            for (int k = 0; k < steps; k++) {
                made = make(stepWays[k], figures[firsts[k]], figures[seconds[k]]);
                figures[k] = made;
            }
            return made;
        }

        int runTest(int t) {
            return run(xs[t], ys[t]);
        }

        /** What the latest INPUTS that were run do to a MUTANT. */
        int effect(int m) {
            int changed = stepOf(m);
            int made = make(otherWay(m), figures[firsts[changed]], figures[seconds[changed]]);
            if (made == figures[changed]) {
                return UNTOUCHED;
            }
            System.arraycopy(figures, 0, mutated, 0, PLACES);
            mutated[changed] = made;
            int due = figures[changed];
            for (int k = changed + 1; k < steps; k++) {
                made = make(stepWays[k], mutated[firsts[k]], mutated[seconds[k]]);
                mutated[k] = made;
                due = figures[k];
            }
            return made == due ? INFECTED : KILLED;
        }

        /** Those of a set of MUTANTS that the latest INPUTS that were run KILL. */
        int killedAmong(int set) {
            int killed = 0;
            for (int m = 0; m < mutants(); m++) {
                if ((set >> m & 1) != 0 && effect(m) == KILLED) {
                    killed |= 1 << m;
                }
            }
            return killed;
        }

        int killedByTest(int t) {
            runTest(t);
            return killedAmong(allMutants());
        }

        int unequalMutants() {
            int equal = allMutants();
            for (int xy = 0; xy < ALL_INPUTS && equal != 0; xy++) {
                run(xy / FIGURES, xy % FIGURES);
                equal &= ~killedAmong(equal);
            }
            return allMutants() & ~equal;
        }

        int countEqual() {
            return mutants() - Integer.bitCount(unequalMutants());
        }

        /** For how many of all INPUTS a MUTANT's OUTPUT is another one. */
        int differences(int m) {
            int count = 0;
            for (int xy = 0; xy < ALL_INPUTS; xy++) {
                run(xy / FIGURES, xy % FIGURES);
                if (effect(m) == KILLED) {
                    count++;
                }
            }
            return count;
        }

        /** Does an act of a DAY, whose numbers are as told; false: there is no such STEP, TEST. */
        boolean act(int v, int target) {
            if (target < TIMES_FROM) {
                return actOnStep(target, v);
            }
            if (target < INPUTS_FROM) {
                return actOnTime(target - TIMES_FROM, v);
            }
            return actOnInputs(target - INPUTS_FROM, v);
        }

        private boolean actOnStep(int k, int v) {
            if (!hasStep(k)) {
                return false;
            }
            stepWays[k] = v;
            return true;
        }

        private boolean actOnTime(int t, int v) {
            if (!hasTest(t)) {
                return false;
            }
            times[t] = v;
            return true;
        }

        private boolean actOnInputs(int t, int v) {
            if (!hasTest(t)) {
                return false;
            }
            xs[t] = v / FIGURES;
            ys[t] = v % FIGURES;
            return true;
        }
    }

    /** Reads TEXTS; where one fails, place is the FIRST FAULT: it never goes past a wrong code. */
    private static final class TextReader {
        private static final int[] WAY_CODES = {'a', 's', 'm', 'g', 'l'};
        private static final int[] KIND_CODES = {'P', 'S', 'D'};
        private static final int MISSING = -1;

        final Program told = new Program();
        private final int[] codes = new int[MOST_CELLS];
        private int length;
        int place;

        /** Whether n cells from i on, which are there, are a TEXT; its PROGRAM stays in told. */
        boolean reads(Sheet row, int i, int n) {
            System.arraycopy(row.cells, i, codes, 0, n);
            length = n;
            place = 0;
            told.becomeEmpty();
            return pass('m') && readSteps() && readTests() && place == length;
        }

        private boolean readSteps() {
            boolean fine = readStep();
            for (int k = 1; k < MOST_STEPS && fine && peek() == ';'; k++) {
                fine = readStep();
            }
            return fine;
        }

        private boolean readStep() {
            if (!pass(';')) {
                return false;
            }
            int stepWay = pick(WAY_CODES);
            int first = stepWay == MISSING ? MISSING : source();
            int second = first == MISSING ? MISSING : source();
            int k = told.steps;
            if (second == MISSING || k >= MOST_STEPS) {
                return false;
            }
            told.stepWays[k] = stepWay;
            told.firsts[k] = first;
            told.seconds[k] = second;
            told.steps++;
            return true;
        }

        private boolean readTests() {
            boolean fine = readTest();
            for (int t = 1; t < MOST_TESTS && fine && peek() == ','; t++) {
                fine = readTest();
            }
            return fine;
        }

        private boolean readTest() {
            if (!pass(',')) {
                return false;
            }
            int kind = pick(KIND_CODES);
            int testTime = kind == MISSING ? MISSING : digit(1, 9);
            int x = testTime == MISSING ? MISSING : digit(0, 9);
            int y = x == MISSING ? MISSING : digit(0, 9);
            int t = told.tests;
            if (y == MISSING || t >= MOST_TESTS) {
                return false;
            }
            told.testKinds[t] = kind;
            told.times[t] = testTime;
            told.xs[t] = x;
            told.ys[t] = y;
            told.tests++;
            return true;
        }

        /** The code at place; no code of a TEXT is below 0, so MISSING is none. */
        private int peek() {
            return place < length ? codes[place] : MISSING;
        }

        private boolean pass(int code) {
            if (peek() != code) {
                return false;
            }
            place++;
            return true;
        }

        /** Which one of some codes comes next, or MISSING. */
        private int pick(int[] some) {
            for (int c = 0; c < some.length; c++) {
                if (pass(some[c])) {
                    return c;
                }
            }
            return MISSING;
        }

        private int digit(int least, int greatest) {
            int v = peek() - '0';
            if (!isWithin(v, least, greatest)) {
                return MISSING;
            }
            place++;
            return v;
        }

        private int source() {
            if (pass('x')) {
                return SOURCE_X;
            }
            if (pass('y')) {
                return SOURCE_Y;
            }
            return digit(0, told.steps - 1);
        }
    }

    /** Which TESTS KILL which MUTANTS of one PROGRAM, as sets, and what follows from that. */
    private static final class Kills {
        final int[] byTest = new int[MOST_TESTS];
        final int[] byMutant = new int[MOST_MUTANTS];
        final int[] weights = new int[MOST_TESTS];
        final int[] chosen = new int[MOST_TESTS];
        int tests;
        int mutants;
        int killed;

        void find(Program program) {
            tests = program.tests;
            mutants = program.mutants();
            killed = 0;
            for (int m = 0; m < mutants; m++) {
                byMutant[m] = 0;
            }
            for (int t = 0; t < tests; t++) {
                weights[t] = program.weight(t);
                byTest[t] = program.killedByTest(t);
                killed |= byTest[t];
                for (int m = 0; m < mutants; m++) {
                    byMutant[m] |= (byTest[t] >> m & 1) << t;
                }
            }
        }

        boolean isSubsumed(int m, int by) {
            return byMutant[by] != 0 && (byMutant[by] & ~byMutant[m]) == 0;
        }

        int countSubsumed(int by) {
            int count = 0;
            for (int m = 0; m < mutants; m++) {
                if (isSubsumed(m, by)) {
                    count++;
                }
            }
            return count;
        }

        boolean isLeast(int m) {
            if (byMutant[m] == 0) {
                return false;
            }
            for (int by = 0; by < mutants; by++) {
                if (isSubsumed(m, by) && (byMutant[by] != byMutant[m] || by < m)) {
                    return false;
                }
            }
            return true;
        }

        int countLeast() {
            int count = 0;
            for (int m = 0; m < mutants; m++) {
                if (isLeast(m)) {
                    count++;
                }
            }
            return count;
        }

        int hardestMutant() {
            int best = NONE;
            int fewest = MOST_TESTS + 1;
            for (int m = 0; m < mutants; m++) {
                int count = Integer.bitCount(byMutant[m]);
                if (count > 0 && count < fewest) {
                    best = m;
                    fewest = count;
                }
            }
            return best;
        }

        int weightOf(int set) {
            int sum = 0;
            for (int t = 0; t < tests; t++) {
                sum += (set >> t & 1) * weights[t];
            }
            return sum;
        }

        private int killedBy(int set) {
            int union = 0;
            for (int t = 0; t < tests; t++) {
                if ((set >> t & 1) != 0) {
                    union |= byTest[t];
                }
            }
            return union;
        }

        /** COVER: sets go up from the least one, so only a lighter one takes the place. */
        int lightestTests() {
            int best = 0;
            int least = Integer.MAX_VALUE;
            for (int set = 0; set < 1 << tests; set++) {
                int weight = weightOf(set);
                if (weight < least && killedBy(set) == killed) {
                    best = set;
                    least = weight;
                }
            }
            return best;
        }

        /** CHOOSING: the TESTS go to chosen, in their order; how many. */
        int chooseTests(int manner) {
            int left = killed;
            int count = 0;
            while (left != 0 && count < tests) {
                chosen[count] = bestTest(manner, left);
                left &= ~byTest[chosen[count]];
                count++;
            }
            return count;
        }

        /** The first TEST stands in where none KILLS any of those left, which is never asked. */
        private int bestTest(int manner, int left) {
            int best = 0;
            for (int t = 1; t < tests; t++) {
                if ((byTest[t] & left) != 0
                        && ((byTest[best] & left) == 0 || isBetter(manner, t, best, left))) {
                    best = t;
                }
            }
            return best;
        }

        private boolean isBetter(int manner, int t, int than, int left) {
            int count = Integer.bitCount(byTest[t] & left);
            int countThan = Integer.bitCount(byTest[than] & left);
            switch (manner) {
                case 0: return count > countThan;
                case 1: return weights[t] < weights[than];
                // Counts by WEIGHT, each side times both WEIGHTS, as no share may be cut.
                default: return count * weights[than] > countThan * weights[t];
            }
        }

        int chosenSet(int count) {
            int set = 0;
            for (int c = 0; c < count; c++) {
                set |= 1 << chosen[c];
            }
            return set;
        }
    }
}
