import java.util.Arrays;

/** Sentences of promises 22 to 26: SHEETS and their cells. */
final class SheetsEdges extends Edges {
    SheetsEdges(Sentences document) {
        super(document);
    }

    @Override
    void ask() {
        sheet();
        lose();
        put();
        cell();
        copy();
        copyRefusals();
        copyFaults();
        close();
    }

    private void sheet() {
        promise(22);
        sentence("A SHEET gets a new row: 1.");
        for (int k = 0; k <= 3; k++) {
            for (int lane = 0; lane <= 2; lane++) {
                newRow(k, lane, 60);
                newRow(k, lane, 1);
                newRow(k, lane, 0);
            }
        }

        sentence("UNKNOWN;");
        from(Edges::small);
        within(0, 3, UNKNOWN, "sheet", 0, 0, 0, 0);
        refuses(UNKNOWN, "sheet", 4, 3, 61);
        refuses(UNKNOWN, "sheet", -1, -1, -1);

        sentence("OUTSIDE: lane,");
        from(Edges::small);
        within(0, 2, OUTSIDE, "sheet", 1, 0, 0, 1);
        // Ahead of SIZE.
        refuses(OUTSIDE, "sheet", 0, 3, -1);
        refuses(OUTSIDE, "sheet", 3, -1, -1);

        sentence("n above 60;");
        from(Edges::small);
        for (int k = 0; k <= 3; k++) {
            refuses(OUTSIDE, "sheet", k, 2, 61);
            refuses(OUTSIDE, "sheet", k, 0, GREATEST);
        }
        due(1, "sheet", 1, 1, 60);
        due(1, "put", 1, 59, 8);
        due(-13, "put", 1, 60, 8);

        sentence("SIZE.");
        from(Edges::small);
        for (int k = 0; k <= 3; k++) {
            faults(SIZE, "sheet", k, 2, -1);
            faults(SIZE, "sheet", k, 0, LEAST);
        }
        dueFault(1, 0, "sheet", 1, 1, 0);
    }

    /** Where another row was ahead, of another LANE and without a 0. */
    private void newRow(int k, int lane, int n) {
        from(() -> {
            MutantRows x = new MutantRows();
            int[] ahead = new int[60];
            Arrays.fill(ahead, 77);
            Due.fill(x, k, (lane + 1) % 3, ahead);
            return x;
        });
        dueFault(1, 0, "sheet", k, lane, n);
        for (int i = 0; i < n; i++) {
            due(0, "cell", k, i, lane);
        }
        dueFault(LOST, INDEX, "cell", k, n, lane);
        dueFault(LOST, CAST, "cell", k, 0, (lane + 1) % 3);
    }

    private void lose() {
        promise(23);
        sentence("A SHEET has nothing: 1;");
        from(Edges::small);
        for (int k = 0; k <= 2; k++) {
            due(1, "lose", k);
            dueFault(LOST, NULL, "cell", k, 0, k);
            dueFault(-11, NULL, "put", k, 0, 0);
        }
        due(1, "sheet", 3, 0, 0);
        due(1, "lose", 3);

        sentence("0: it had nothing.");
        from(Edges::small);
        due(0, "lose", 3);
        due(0, "lose", 3);
        due(1, "lose", 1);
        due(0, "lose", 1);
        dueFault(-11, NULL, "put", 1, 0, 0);

        sentence("UNKNOWN.");
        from(Edges::small);
        within(0, 3, UNKNOWN, "lose", 0, 0);
    }

    private void put() {
        promise(24);
        sentence("Cell i of a SHEET becomes v: 1.");
        from(Edges::small);
        dueFault(1, 0, "put", 1, 0, 8);
        dueFault(1, 0, "put", 1, 2, 9);
        due(8, "cell", 1, 0, 1);
        due(6, "cell", 1, 1, 1);
        due(9, "cell", 1, 2, 1);
        due(1, "put", 2, 0, LEAST);
        due(1, "put", 2, 5, GREATEST);
        due(LEAST, "cell", 2, 0, 2);
        due(GREATEST, "cell", 2, 5, 2);
        due(10, "cell", 2, 1, 2);

        sentence("UNKNOWN;");
        from(Edges::small);
        within(0, 3, UNKNOWN, "put", 0, 0, 0, 0);
        refuses(UNKNOWN, "put", 4, -1, 0);

        sentence("NULL;");
        from(Edges::small);
        faults(NULL, "put", 3, 0, 0);
        faults(NULL, "put", 3, -1, 0);
        faults(NULL, "put", 3, 60, 0);

        sentence("INDEX.");
        from(Edges::small);
        for (int i : new int[] {-1, 3, 60, LEAST, GREATEST}) {
            faults(INDEX, "put", 1, i, 9);
        }
        faults(INDEX, "put", 0, 24, 9);
        faults(INDEX, "put", 2, 6, 9);
        due(1, "sheet", 3, 0, 0);
        dueFault(-13, INDEX, "put", 3, 0, 0);
    }

    private void cell() {
        promise(25);
        sentence("Cell i of what a SHEET has, taken as a row of a LANE.");
        from(Edges::small);
        dueFault('m', 0, "cell", 0, 0, 0);
        dueFault('7', 0, "cell", 0, 23, 0);
        dueFault(5, 0, "cell", 1, 0, 1);
        dueFault(7, 0, "cell", 1, 2, 1);
        dueFault(9, 0, "cell", 2, 0, 2);
        dueFault(0, 0, "cell", 2, 5, 2);

        sentence("LOST: UNKNOWN,");
        from(Edges::small);
        for (int k : new int[] {-1, 4, LEAST, GREATEST}) {
            refuses(LOST, "cell", k, 0, 0);
            refuses(LOST, "cell", k, -1, 3);
        }

        sentence("OUTSIDE: lane;");
        from(Edges::small);
        for (int lane : new int[] {-1, 3, LEAST, GREATEST}) {
            for (int k = 0; k <= 3; k++) {
                refuses(LOST, "cell", k, 0, lane);
                refuses(LOST, "cell", k, -1, lane);
            }
        }

        sentence("FAULTS CAST (nothing is no CAST),");
        from(Edges::small);
        for (int k = 0; k <= 2; k++) {
            for (int lane = 0; lane <= 2; lane++) {
                if (lane != k) {
                    faults(CAST, "cell", k, 0, lane);
                    faults(CAST, "cell", k, -1, lane);
                    faults(CAST, "cell", k, 60, lane);
                }
            }
        }
        faults(NULL, "cell", 3, 0, 0);

        sentence("NULL,");
        from(Edges::small);
        for (int lane = 0; lane <= 2; lane++) {
            faults(NULL, "cell", 3, 0, lane);
            faults(NULL, "cell", 3, -1, lane);
        }

        sentence("INDEX.");
        from(Edges::small);
        for (int i : new int[] {-1, 3, 60, LEAST, GREATEST}) {
            faults(INDEX, "cell", 1, i, 1);
        }
        faults(INDEX, "cell", 0, 24, 0);
        faults(INDEX, "cell", 2, 6, 2);
        due(1, "sheet", 3, 0, 0);
        dueFault(LOST, INDEX, "cell", 3, 0, 0);
    }

    private void copy() {
        promise(26);
        sentence("n cells of a SHEET from i on go to another one (perhaps the same) from j on, as they were: n.");
        from(SheetsEdges::twoRows);
        dueFault(2, 0, "copy", 0, 3, 1, 1, 2);
        dueRow(1, 9, 4, 5);
        dueRow(0, 1, 2, 3, 4, 5);
        dueFault(3, 0, "copy", 0, 0, 1, 0, 3);
        dueRow(1, 1, 2, 3);
        // Cells that are both taken and given: as they were ahead, in either direction.
        from(SheetsEdges::twoRows);
        due(4, "copy", 0, 0, 0, 1, 4);
        dueRow(0, 1, 1, 2, 3, 4);
        from(SheetsEdges::twoRows);
        due(4, "copy", 0, 1, 0, 0, 4);
        dueRow(0, 2, 3, 4, 5, 5);
        due(5, "copy", 0, 0, 0, 0, 5);
        dueRow(0, 2, 3, 4, 5, 5);
        // None, at the end of both.
        due(0, "copy", 0, 5, 1, 3, 0);
        due(0, "copy", 0, 0, 1, 0, 0);
        dueRow(1, 9, 9, 9);
        for (int lane = 0; lane <= 2; lane++) {
            MutantRows x = new MutantRows();
            x.sheet(2, lane, 60);
            x.sheet(3, lane, 60);
            x.put(2, 0, 8);
            x.put(2, 59, -8);
            is("all cells of LANE " + lane, x.copy(2, 0, 3, 0, 60), 60);
            is("the first", x.cell(3, 0, lane), 8);
            is("the last", x.cell(3, 59, lane), -8);
        }
    }

    /** SHEETS 0 and 1 have shorts, SHEET 2 ints, SHEET 3 nothing; the latest FAULT is INDEX. */
    private static MutantRows twoRows() {
        MutantRows x = new MutantRows();
        Due.fill(x, 0, 1, 1, 2, 3, 4, 5);
        Due.fill(x, 1, 1, 9, 9, 9);
        Due.fill(x, 2, 2, 6, 6, 6, 6, 6);
        x.put(0, 5, 0);
        return x;
    }

    private void dueRow(int k, int... cells) {
        for (int i = 0; i < cells.length; i++) {
            due(cells[i], "cell", k, i, 1);
        }
        dueFault(LOST, INDEX, "cell", k, cells.length, 1);
    }

    private void copyRefusals() {
        promise(26);
        sentence("UNKNOWN;");
        from(SheetsEdges::twoRows);
        within(0, 3, UNKNOWN, "copy", 0, 0, 0, 1, 0, 1);
        within(0, 3, UNKNOWN, "copy", 2, 0, 0, 1, 0, 1);
        refuses(UNKNOWN, "copy", 4, -1, 4, -1, -1);
        // Ahead of NULL.
        refuses(UNKNOWN, "copy", 3, 0, 4, 0, 0);
        refuses(UNKNOWN, "copy", -1, 0, 3, 0, 0);
    }

    private void copyFaults() {
        promise(26);
        sentence("FAULTS NULL (the first, the other),");
        from(SheetsEdges::twoRows);
        faults(NULL, "copy", 3, 0, 0, 0, 0);
        faults(NULL, "copy", 0, 0, 3, 0, 0);
        faults(NULL, "copy", 3, 0, 3, 0, 0);
        faults(NULL, "copy", 3, -1, 2, -1, -1);
        faults(NULL, "copy", 2, -1, 3, -1, -1);

        sentence("CAST (unlike LANES),");
        from(SheetsEdges::twoRows);
        faults(CAST, "copy", 0, 0, 2, 0, 0);
        faults(CAST, "copy", 2, 0, 0, 0, 5);
        faults(CAST, "copy", 2, -1, 1, -1, -1);
        from(Edges::small);
        faults(CAST, "copy", 0, 0, 1, 0, 0);
        faults(CAST, "copy", 0, 0, 2, 0, 0);

        sentence("INDEX: i, j, n below 0 or beyond.");
        from(SheetsEdges::twoRows);
        int[][] wrong = {
            {-1, 0, 1}, {-1, 0, 0}, {0, -1, 1}, {0, -1, 0}, {0, 0, -1}, {5, 3, -1}, {-1, -1, -1},
            {6, 0, 0}, {5, 0, 1}, {4, 0, 2}, {0, 4, 0}, {0, 3, 1}, {0, 2, 2}, {0, 0, 4}, {3, 0, 3},
            {LEAST, 0, 0}, {0, LEAST, 0}, {0, 0, LEAST}, {GREATEST, 0, 0}, {0, GREATEST, 0}, {0, 0, GREATEST},
            {1, 0, GREATEST}, {0, 1, GREATEST}, {GREATEST, GREATEST, GREATEST}, {GREATEST, 0, 1}, {0, GREATEST, 1},
        };
        for (int[] w : wrong) {
            faults(INDEX, "copy", 0, w[0], 1, w[1], w[2]);
        }
        // Within one SHEET: six cells of five, whichever end goes beyond.
        faults(INDEX, "copy", 0, 0, 0, 0, 6);
        faults(INDEX, "copy", 0, 1, 0, 0, 5);
        faults(INDEX, "copy", 0, 0, 0, 1, 5);
    }
}
