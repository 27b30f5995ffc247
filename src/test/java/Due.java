/** Counts the answers of a test that are not as due, and makes objects to ask. */
final class Due {
    private final String name;
    private int asked;
    private int wrong;

    Due(String name) {
        this.name = name;
    }

    void is(String call, long got, long want) {
        asked++;
        if (got != want) {
            wrong++;
            System.out.println(name + ": " + call + " answered " + got + ", due is " + want);
        }
    }

    /** An answer, and the FAULT that fault() tells behind it. */
    void faults(String call, MutantRows x, long got, long want, int fault) {
        is(call, got, want);
        is("fault() behind " + call, x.fault(), fault);
    }

    void end() {
        System.out.println(name + ": " + asked + " answers, " + wrong + " not as due");
        if (wrong != 0 || asked == 0) {
            System.exit(1);
        }
    }

    static void fill(MutantRows x, int sheet, int lane, int... cells) {
        x.sheet(sheet, lane, cells.length);
        for (int i = 0; i < cells.length; i++) {
            x.put(sheet, i, cells[i]);
        }
    }

    /** Tells a TEXT by SHEET 0, as bytes. */
    static int tell(MutantRows x, String text) {
        fill(x, 0, 0, text.chars().toArray());
        return x.program(0, 0, 0, text.length());
    }

    static MutantRows told(String text) {
        MutantRows x = new MutantRows();
        if (tell(x, text) < 0) {
            throw new IllegalStateException("no TEXT: " + text);
        }
        return x;
    }

    /** A DAY told by SHEET 3, as ints. */
    static int day(MutantRows x, int what, int... cells) {
        fill(x, 3, 2, cells);
        return x.day(3, 2, 0, cells.length / 2, what);
    }
}
