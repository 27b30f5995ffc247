/** Promises 22 to 26 and 31: SHEETS, their cells, and the FAULTS of calls on them. */
public final class SheetsTest {
    private static final Due due = new Due("SheetsTest");

    public static void main(String[] args) {
        sheets();
        lose();
        cutToLane();
        cells();
        putRefusals();
        copies();
        copyFaults();
        latestFault();
        due.end();
    }

    private static void sheets() {
        MutantRows x = new MutantRows();
        due.faults("sheet(0, 2, 60)", x, x.sheet(0, 2, 60), 1, 0);
        due.is("put at the beginning", x.put(0, 0, 7), 1);
        due.is("put at the end", x.put(0, 59, 7), 1);
        due.is("cell at the end", x.cell(0, 59, 2), 7);
        due.is("a new row", x.sheet(0, 2, 60), 1);
        due.is("0 at first, at the beginning", x.cell(0, 0, 2), 0);
        due.is("0 at first, at the end", x.cell(0, 59, 2), 0);
        due.is("a row of none", x.sheet(3, 0, 0), 1);
        due.is("no cell there", x.cell(3, 0, 0), MutantRows.LOST);
        due.is("sheet(-1, 3, 61)", x.sheet(-1, 3, 61), MutantRows.UNKNOWN);
        due.is("sheet(4, 0, 1)", x.sheet(4, 0, 1), MutantRows.UNKNOWN);
        due.is("sheet(0, -1, 1)", x.sheet(0, -1, 1), MutantRows.OUTSIDE);
        due.faults("sheet(0, 3, -1)", x, x.sheet(0, 3, -1), MutantRows.OUTSIDE, 0);
        due.faults("sheet(0, 0, 61)", x, x.sheet(0, 0, 61), MutantRows.OUTSIDE, 0);
        due.faults("sheet(0, 0, -1)", x, x.sheet(0, 0, -1), -14, 4);
        due.faults("the least n", x, x.sheet(0, 0, Integer.MIN_VALUE), -14, 4);
        due.faults("the row that stays", x, x.cell(0, 59, 2), 0, 0);
    }

    private static void lose() {
        MutantRows x = new MutantRows();
        due.is("lose of nothing", x.lose(2), 0);
        x.sheet(2, 1, 0);
        due.is("lose of a row of none", x.lose(2), 1);
        due.is("lose again", x.lose(2), 0);
        due.faults("put behind it", x, x.put(2, 0, 0), -11, 1);
        due.is("lose(-1)", x.lose(-1), MutantRows.UNKNOWN);
        due.is("lose(4)", x.lose(4), MutantRows.UNKNOWN);
        due.is("lose names no FAULTS", x.fault(), 1);
    }

    private static void cutToLane() {
        MutantRows x = new MutantRows();
        int[] told = {127, 128, 255, 256, -129, 32767, 32768, 65535, Integer.MAX_VALUE, Integer.MIN_VALUE};
        for (int lane = 0; lane <= 2; lane++) {
            x.sheet(lane, lane, 1);
            for (int v : told) {
                long wanted = lane == 0 ? (byte) v : lane == 1 ? (short) v : v;
                due.is("put of " + v, x.put(lane, 0, v), 1);
                due.is("cell of LANE " + lane, x.cell(lane, 0, lane), wanted);
            }
        }
    }

    private static void cells() {
        MutantRows x = new MutantRows();
        Due.fill(x, 1, 1, 5, 6, 7);
        due.faults("cell(1, 0, 1)", x, x.cell(1, 0, 1), 5, 0);
        due.faults("cell(1, 2, 1)", x, x.cell(1, 2, 1), 7, 0);
        due.faults("CAST ahead of INDEX", x, x.cell(1, 9, 2), MutantRows.LOST, 2);
        due.faults("NULL ahead of INDEX", x, x.cell(0, 9, 2), MutantRows.LOST, 1);
        due.faults("INDEX 3", x, x.cell(1, 3, 1), MutantRows.LOST, 3);
        due.faults("INDEX -1", x, x.cell(1, -1, 1), MutantRows.LOST, 3);
        due.faults("LANE 3", x, x.cell(1, -1, 3), MutantRows.LOST, 0);
        x.cell(1, 3, 1);
        due.faults("LANE -1 of nothing", x, x.cell(0, 0, -1), MutantRows.LOST, 0);
        x.cell(1, 3, 1);
        due.faults("SHEET -1", x, x.cell(-1, 0, 1), MutantRows.LOST, 0);
        due.faults("SHEET 4", x, x.cell(4, 0, 1), MutantRows.LOST, 0);
    }

    private static void putRefusals() {
        MutantRows x = new MutantRows();
        x.sheet(1, 0, 2);
        due.faults("put(1, 2, 9)", x, x.put(1, 2, 9), -13, 3);
        due.faults("put(1, -1, 9)", x, x.put(1, -1, 9), -13, 3);
        due.faults("NULL ahead of INDEX", x, x.put(0, -1, 9), -11, 1);
        due.faults("put(4, 0, 9)", x, x.put(4, 0, 9), MutantRows.UNKNOWN, 0);
        due.faults("put(-1, 0, 9)", x, x.put(-1, 0, 9), MutantRows.UNKNOWN, 0);
        due.is("cell 0", x.cell(1, 0, 0), 0);
        due.is("cell 1", x.cell(1, 1, 0), 0);
    }

    private static void copies() {
        MutantRows x = new MutantRows();
        Due.fill(x, 0, 1, 1, 2, 3, 4, 5);
        Due.fill(x, 1, 1, 9, 9, 9);
        due.faults("copy(0, 2, 1, 1, 2)", x, x.copy(0, 2, 1, 1, 2), 2, 0);
        dueRow(x, 1, 1, 9, 3, 4);
        dueRow(x, 0, 1, 1, 2, 3, 4, 5);
        due.is("up in the same", x.copy(0, 0, 0, 1, 4), 4);
        dueRow(x, 0, 1, 1, 1, 2, 3, 4);
        due.is("down in the same", x.copy(0, 1, 0, 0, 4), 4);
        dueRow(x, 0, 1, 1, 2, 3, 4, 4);
        due.is("none", x.copy(0, 5, 1, 3, 0), 0);
        due.is("all", x.copy(1, 0, 0, 2, 3), 3);
        dueRow(x, 0, 1, 1, 2, 9, 3, 4);
    }

    private static void dueRow(MutantRows x, int sheet, int lane, int... cells) {
        for (int i = 0; i < cells.length; i++) {
            due.is("cell " + i + " of SHEET " + sheet, x.cell(sheet, i, lane), cells[i]);
        }
    }

    private static void copyFaults() {
        MutantRows x = new MutantRows();
        Due.fill(x, 0, 1, 1, 2, 3);
        Due.fill(x, 1, 1, 4, 5);
        Due.fill(x, 2, 2, 6);
        x.put(3, 0, 0);
        due.faults("a copy behind a FAULT", x, x.copy(0, 0, 1, 0, 0), 0, 0);
        x.put(3, 0, 0);
        due.faults("SHEET -1", x, x.copy(-1, 0, 3, 0, 1), MutantRows.UNKNOWN, 0);
        due.faults("other SHEET 4", x, x.copy(3, 0, 4, 0, 1), MutantRows.UNKNOWN, 0);
        due.faults("from nothing", x, x.copy(3, 9, 0, 9, -1), -11, 1);
        due.faults("to nothing", x, x.copy(0, 9, 3, 9, -1), -11, 1);
        due.faults("nothing to itself", x, x.copy(3, 0, 3, 0, 0), -11, 1);
        due.faults("CAST ahead of INDEX", x, x.copy(0, 9, 2, 9, -1), -12, 2);
        int[][] wrong = {
            {-1, 0, 1}, {0, -1, 1}, {0, 0, -1}, {0, 0, 3}, {2, 0, 2}, {0, 1, 2}, {4, 0, 0}, {0, 3, 0},
            {1, 1, Integer.MAX_VALUE}, {Integer.MAX_VALUE, 0, 1}, {0, 0, Integer.MIN_VALUE},
        };
        for (int[] w : wrong) {
            due.faults("copy from " + w[0] + " to " + w[1] + " of " + w[2], x, x.copy(0, w[0], 1, w[1], w[2]), -13, 3);
        }
        dueRow(x, 1, 1, 4, 5);
    }

    private static void latestFault() {
        MutantRows x = Due.told("m;axy,P312");
        x.put(3, 0, 0);
        due.is("NULL", x.fault(), 1);
        due.is("fault() leaves it", x.fault(), 1);
        x.many(0);
        x.cover(0);
        x.lose(-1);
        x.tell(0);
        x.log(9);
        x.reading(3);
        x.output(99, 0);
        due.is("calls that name none leave it", x.fault(), 1);
        x.put(9, 0, 0);
        due.is("a refused one", x.fault(), 0);
        x.as(0, 2);
        due.is("CAST", x.fault(), 2);
        x.as(0, 0);
        due.is("one that came to none", x.fault(), 0);
        x.sheet(0, 0, -1);
        due.is("SIZE", x.fault(), 4);
        x.sheet(1, 0, 1);
        due.is("sheet that came to none", x.fault(), 0);
        x.cell(1, 1, 0);
        due.is("INDEX", x.fault(), 3);
        x.program(1, 0, 0, 1);
        due.is("a TEXT with a FIRST FAULT", x.fault(), 0);
    }
}
