/** Promises 26 to 35. */
public final class SheetsTest {
    private static final String HOUSE = "s2301420;w05;k43;t28;w21,0,5";
    private static final int MIN = Integer.MIN_VALUE, MAX = Integer.MAX_VALUE;
    private static final long LOST = Long.MIN_VALUE;

    public static void main(String[] args) {
        sheet();
        lose();
        putIsCutToTheLane();
        refusalsOfPut();
        refusalsOfCell();
        copy();
        refusalsOfCopy();
        tell();
        hear();
        traceWraps();
        as();
        faultOfTheLatest();
        Check.end();
    }

    private static void sheet() {
        BumpDiary x = new BumpDiary();
        for (int k = 0; k < 4; k++) {
            Check.due("sheet", x.sheet(k, k % 3, 60), 1);
            for (int i = 0; i < 60; i++) {
                Check.due("a new cell", x.cell(k, i, k % 3), 0);
                x.put(k, i, k + 1);
            }
        }
        Check.due("sheets are apart", x.cell(0, 59, 0), 1);
        Check.due("sheets are apart", x.cell(1, 0, 1), 2);
        Check.due("a new row", x.sheet(1, 2, 3), 1);
        Check.due("a new row's cell", x.cell(1, 2, 2), 0);
        Check.due("a new row's length", x.cell(1, 3, 2), LOST);
        Check.due("an empty row", x.sheet(1, 0, 0), 1);
        Check.due("an empty row's cell", x.cell(1, 0, 0), LOST);
        Check.due("fault", x.fault(), 3);
        Check.due("longer again", x.sheet(1, 1, 60), 1);
        Check.due("all is 0 anew", x.cell(1, 0, 1), 0);
        Check.due("all is 0 anew", x.cell(1, 59, 1), 0);
        Check.due("the first cell is set", x.put(1, 0, 7), 1);
        Check.due("of like lane and length", x.sheet(1, 1, 60), 1);
        Check.due("the first cell is 0 anew", x.cell(1, 0, 1), 0);
        Check.due("sheet(4, 3, 61)", x.sheet(4, 3, 61), -1);
        Check.due("sheet(-1, 0, 0)", x.sheet(-1, 0, 0), -1);
        Check.due("sheet(0, 3, -1)", x.sheet(0, 3, -1), -2);
        Check.due("sheet(0, -1, 0)", x.sheet(0, -1, 0), -2);
        Check.due("sheet(0, 0, 61)", x.sheet(0, 0, 61), -2);
        Check.due("sheet(0, 0, MAX)", x.sheet(0, 0, MAX), -2);
        Check.due("fault", x.fault(), 0);
        Check.due("sheet(0, 0, -1)", x.sheet(0, 0, -1), -14);
        Check.due("fault", x.fault(), 4);
        Check.due("sheet(0, 0, MIN)", x.sheet(0, 0, MIN), -14);
        Check.due("what it had stays", x.cell(0, 59, 0), 1);
    }

    private static void lose() {
        BumpDiary x = new BumpDiary();
        Check.due("lose(0)", x.lose(0), 0);
        x.sheet(0, 2, 0);
        Check.due("lose of an empty row", x.lose(0), 1);
        Check.due("lose(0)", x.lose(0), 0);
        x.sheet(3, 1, 5);
        Check.due("lose(3)", x.lose(3), 1);
        Check.due("cell of nothing", x.cell(3, 0, 1), LOST);
        Check.due("fault", x.fault(), 1);
        Check.due("lose(4)", x.lose(4), -1);
        Check.due("lose(-1)", x.lose(-1), -1);
        Check.due("lose names no fault", x.fault(), 1);
    }

    private static void putIsCutToTheLane() {
        BumpDiary x = new BumpDiary();
        int[] values = {0, 1, -1, 127, 128, -128, -129, 255, 256, 32767, 32768, -32769, 65536, MAX, MIN, 305419896};
        for (int lane = 0; lane <= 2; lane++) {
            x.sheet(lane, lane, values.length);
            for (int i = 0; i < values.length; i++) {
                Check.due("put", x.put(lane, i, values[i]), 1);
            }
            for (int i = 0; i < values.length; i++) {
                long want = lane == 0 ? (byte) values[i] : lane == 1 ? (short) values[i] : values[i];
                Check.due("cell, lane " + lane + " of " + values[i], x.cell(lane, i, lane), want);
            }
        }
    }

    private static void refusalsOfPut() {
        BumpDiary x = new BumpDiary();
        x.sheet(0, 0, 2);
        Check.due("put(4, 9, 0)", x.put(4, 9, 0), -1);
        Check.due("put(-1, 0, 0)", x.put(-1, 0, 0), -1);
        Check.due("fault", x.fault(), 0);
        Check.due("put(1, 9, 0)", x.put(1, 9, 0), -11);
        Check.due("fault", x.fault(), 1);
        Check.due("put(0, 2, 0)", x.put(0, 2, 7), -13);
        Check.due("fault", x.fault(), 3);
        Check.due("put(0, -1, 0)", x.put(0, -1, 7), -13);
        Check.due("put(0, MAX, 0)", x.put(0, MAX, 7), -13);
        Check.due("put(0, MIN, 0)", x.put(0, MIN, 7), -13);
        Check.due("nothing is put", x.cell(0, 0, 0) + x.cell(0, 1, 0), 0);
        Check.due("put(0, 1, 0)", x.put(0, 1, 7), 1);
        Check.due("fault", x.fault(), 0);
    }

    private static void refusalsOfCell() {
        BumpDiary x = new BumpDiary();
        x.sheet(0, 1, 2);
        cellLost(x, 4, 0, 3, 0);
        cellLost(x, -1, 0, 0, 0);
        cellLost(x, 0, 0, 3, 0);
        cellLost(x, 1, 0, -1, 0);
        cellLost(x, 0, 9, 0, 2);
        cellLost(x, 0, 0, 2, 2);
        cellLost(x, 1, 9, 0, 1);
        cellLost(x, 0, 2, 1, 3);
        cellLost(x, 0, -1, 1, 3);
        cellLost(x, 0, MAX, 1, 3);
        cellLost(x, 0, MIN, 1, 3);
        x.put(0, 1, -5);
        Check.due("cell(0, 1, 1)", x.cell(0, 1, 1), -5);
        Check.due("fault", x.fault(), 0);
    }

    private static void cellLost(BumpDiary x, int k, int i, int lane, int fault) {
        x.sheet(0, 1, -1);
        Check.due("fault", x.fault(), 4);
        Check.due("cell(" + k + ", " + i + ", " + lane + ")", x.cell(k, i, lane), LOST);
        Check.due("fault", x.fault(), fault);
    }

    private static void cells(BumpDiary x, int k, int lane, int... due) {
        for (int i = 0; i < due.length; i++) {
            Check.due("cell " + i, x.cell(k, i, lane), due[i]);
        }
    }

    private static void copy() {
        BumpDiary x = new BumpDiary();
        Check.fill(x, 0, 2, 1, 2, 3, 4, 5);
        Check.fill(x, 1, 2, 9, 9, 9, 9);
        Check.due("copy to another", x.copy(0, 1, 1, 2, 2), 2);
        cells(x, 1, 2, 9, 9, 2, 3);
        cells(x, 0, 2, 1, 2, 3, 4, 5);
        Check.due("copy to later ones of the same", x.copy(0, 0, 0, 1, 4), 4);
        cells(x, 0, 2, 1, 1, 2, 3, 4);
        Check.fill(x, 0, 2, 1, 2, 3, 4, 5);
        Check.due("copy to earlier ones of the same", x.copy(0, 1, 0, 0, 4), 4);
        cells(x, 0, 2, 2, 3, 4, 5, 5);
        Check.due("copy of none", x.copy(0, 5, 1, 4, 0), 0);
        Check.due("fault", x.fault(), 0);
        Check.due("copy of all", x.copy(1, 0, 0, 1, 4), 4);
        cells(x, 0, 2, 2, 9, 9, 2, 3);
    }

    private static void refusalsOfCopy() {
        BumpDiary x = new BumpDiary();
        Check.fill(x, 0, 2, 1, 2, 3);
        Check.fill(x, 1, 1, 7, 8, 9);
        Check.fill(x, 2, 2, 4, 5);
        copyRefused(x, new int[] {4, 0, 3, 0, -1}, -1, 0);
        copyRefused(x, new int[] {0, 0, 4, 0, -1}, -1, 0);
        copyRefused(x, new int[] {-1, 0, 0, 0, 0}, -1, 0);
        copyRefused(x, new int[] {3, 0, -1, 0, 0}, -1, 0);
        copyRefused(x, new int[] {3, 9, 0, 9, -1}, -11, 1);
        copyRefused(x, new int[] {0, 9, 3, 9, -1}, -11, 1);
        copyRefused(x, new int[] {3, 0, 3, 0, 0}, -11, 1);
        copyRefused(x, new int[] {0, 9, 1, 9, -1}, -12, 2);
        copyRefused(x, new int[] {1, 0, 0, 0, 0}, -12, 2);
        copyRefused(x, new int[] {0, 0, 2, 0, -1}, -13, 3);
        copyRefused(x, new int[] {0, 0, 2, 0, 3}, -13, 3);
        copyRefused(x, new int[] {2, 0, 0, 0, 3}, -13, 3);
        copyRefused(x, new int[] {0, -1, 2, 0, 1}, -13, 3);
        copyRefused(x, new int[] {0, 0, 2, -1, 1}, -13, 3);
        copyRefused(x, new int[] {0, 4, 2, 0, 0}, -13, 3);
        copyRefused(x, new int[] {0, 0, 2, 3, 0}, -13, 3);
        copyRefused(x, new int[] {0, MAX, 2, 0, MAX}, -13, 3);
        copyRefused(x, new int[] {0, 0, 2, MAX, MAX}, -13, 3);
        copyRefused(x, new int[] {0, 0, 2, 0, MIN}, -13, 3);
        cells(x, 0, 2, 1, 2, 3);
        cells(x, 1, 1, 7, 8, 9);
        cells(x, 2, 2, 4, 5);
    }

    private static void copyRefused(BumpDiary x, int[] a, int want, int fault) {
        x.sheet(0, 1, -1);
        Check.due("copy " + java.util.Arrays.toString(a), x.copy(a[0], a[1], a[2], a[3], a[4]), want);
        Check.due("fault", x.fault(), fault);
    }

    private static int traceOf(int trace, int... numbers) {
        for (int number : numbers) {
            trace = 31 * trace + number;
        }
        return trace;
    }

    private static void tell() {
        BumpDiary x = Check.housed(HOUSE);
        int[] due = {5, 103, 116, 1};
        int[][] left = {{1}, {2, 1}, {3, 2, 1, 1}, {1}};
        int trace = 0;
        for (int d = 0; d < 4; d++) {
            Check.due("tell(" + d + ")", x.tell(d), due[d]);
            trace = traceOf(trace, left[d]);
            Check.due("trace", x.trace(), trace);
        }
        x.dine(2, 0);
        Check.due("tell of a thief without weight", x.tell(2), 100);
        trace = traceOf(trace, left[2]);
        Check.due("tell(4)", x.tell(4), -1);
        Check.due("tell(-1)", x.tell(-1), -1);
        Check.due("trace", x.trace(), trace);
    }

    private static void hear() {
        BumpDiary x = Check.housed(HOUSE);
        int[] due = {0, 1, 30, 3};
        int[] left = {4, 4, 5, 4};
        int trace = 0;
        for (int d = 0; d < 4; d++) {
            Check.due("hear(" + d + ")", x.hear(d), due[d]);
            trace = traceOf(trace, left[d]);
            Check.due("trace", x.trace(), trace);
        }
        Check.due("hear(4)", x.hear(4), -1);
        Check.due("hear(-1)", x.hear(-1), -1);
        Check.due("trace", x.trace(), trace);
    }

    private static void traceWraps() {
        BumpDiary x = Check.housed(HOUSE);
        int trace = 0;
        boolean below = false;
        for (int k = 0; k < 40; k++) {
            x.hear(2);
            trace = traceOf(trace, 5);
            below = below || trace < 0;
            Check.due("trace", x.trace(), trace);
        }
        Check.holds("the trace went below 0", below);
    }

    private static void as() {
        BumpDiary x = Check.housed(HOUSE);
        int[] kinds = {0, 1, 2, 0};
        for (int d = 0; d < 4; d++) {
            for (int kind = 0; kind < 3; kind++) {
                boolean can = kind <= kinds[d];
                Check.due("as(" + d + ", " + kind + ")", x.as(d, kind), can ? 1 : -12);
                Check.due("fault", x.fault(), can ? 0 : 2);
            }
        }
        Check.due("as(0, 2)", x.as(0, 2), -12);
        Check.due("as(4, 3)", x.as(4, 3), -1);
        Check.due("fault", x.fault(), 0);
        Check.due("as(0, 2)", x.as(0, 2), -12);
        Check.due("as(0, 3)", x.as(0, 3), -2);
        Check.due("fault", x.fault(), 0);
        Check.due("as(0, -1)", x.as(0, -1), -2);
        Check.due("as(-1, 0)", x.as(-1, 0), -1);
        Check.due("kind stays", x.ofDoer(0, 0), 0);
    }

    /** Calls that name no fault leave it, be they refused or not. */
    private static void faultOfTheLatest() {
        BumpDiary x = Check.housed(HOUSE);
        x.as(0, 1);
        x.ofDoer(0, 0);
        x.ofPen(9, 0);
        x.creak(0);
        x.oil(0, 3);
        x.dine(0, 5);
        x.carry(0, 0);
        x.leap(2);
        x.bump(0, 0, 4);
        x.step(0, 4);
        x.paper();
        x.quiet(0, 1, 0);
        x.meet(0, 1, 0);
        x.loud(0, 0);
        x.part();
        x.reading(0, 0, 0, 8);
        x.back(1);
        x.weights(0);
        x.kinds(0);
        x.creaks(0);
        x.odds(0, 0, 0);
        x.lose(2);
        x.tell(0);
        x.hear(0);
        x.trace();
        x.many(0);
        Check.due("fault", x.fault(), 2);
        Check.due("fault again", x.fault(), 2);
        x.sheet(0, 0, 4);
        Check.due("fault after sheet", x.fault(), 0);
        x.as(0, 1);
        x.put(0, 0, 1);
        Check.due("fault after put", x.fault(), 0);
        x.as(0, 1);
        x.cell(0, 0, 0);
        Check.due("fault after cell", x.fault(), 0);
        x.as(0, 1);
        x.copy(0, 0, 0, 0, 1);
        Check.due("fault after copy", x.fault(), 0);
        x.as(0, 1);
        x.night(0, 0, 0, 0, 0, 0);
        Check.due("fault after night", x.fault(), 0);
        x.as(0, 1);
        x.fits(0, 0, 0, 0, 0, 0);
        Check.due("fault after fits", x.fault(), 0);
        x.as(0, 1);
        x.joins(0, 0, 0, 0, 0);
        Check.due("fault after joins", x.fault(), 0);
        x.as(0, 1);
        x.house(3, 0, 0, 28);
        Check.due("fault after house", x.fault(), 0);
    }
}
