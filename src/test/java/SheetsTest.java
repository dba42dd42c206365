/** Promises 24 to 28 and 33: sheets and the faults that they meet. */
public final class SheetsTest {
    private static final int LOW = Integer.MIN_VALUE;
    private static final int HIGH = Integer.MAX_VALUE;
    private static final long LOST = Long.MIN_VALUE;

    private SheetsTest() {
    }

    public static void main(String[] args) {
        newRows();
        lost();
        cellsAreCut();
        faultsOfPut();
        faultsOfCell();
        copies();
        copiesOverThemselves();
        faultsOfCopy();
        whichCallsNameFaults();
        Check.end("SheetsTest");
    }

    private static void newRows() {
        IronRumours x = new IronRumours();
        Check.due("sheet(4, 3, 61)", x.sheet(4, 3, 61), -1);
        Check.due("sheet(-1, 0, 0)", x.sheet(-1, 0, 0), -1);
        Check.due("sheet(LOW, 0, 0)", x.sheet(LOW, 0, 0), -1);
        Check.due("sheet(0, 3, -1)", x.sheet(0, 3, -1), -2);
        Check.due("sheet(0, -1, 0)", x.sheet(0, -1, 0), -2);
        Check.due("sheet(0, 0, 61)", x.sheet(0, 0, 61), -2);
        Check.due("sheet(0, 0, HIGH)", x.sheet(0, 0, HIGH), -2);
        Check.due("sheet(0, 0, -1)", x.sheet(0, 0, -1), -14);
        Check.due("fault()", x.fault(), 4);
        Check.due("sheet(0, 0, LOW)", x.sheet(0, 0, LOW), -14);
        Check.due("it has nothing", x.lose(0), 0);
        Check.due("sheet(0, 0, 60)", x.sheet(0, 0, 60), 1);
        Check.due("fault()", x.fault(), 0);
        Check.due("put(0, 59, 7)", x.put(0, 59, 7), 1);
        Check.due("put(0, 60, 7)", x.put(0, 60, 7), -13);
        Check.due("a row of another lane", x.sheet(0, 2, 60), 1);
        Check.due("its cells are 0", x.cell(0, 59, 2), 0);
        x.put(0, 3, 5);
        Check.due("the same again", x.sheet(0, 2, 4), 1);
        Check.due("its cells are 0", x.cell(0, 3, 2), 0);
        Check.due("it is shorter", x.cell(0, 4, 2), LOST);
        Check.due("a row of none", x.sheet(0, 1, 0), 1);
        Check.due("has no cell", x.put(0, 0, 1), -13);
        Check.due("but is something", x.lose(0), 1);
        Check.due("a refused one", x.sheet(1, 0, 3), 1);
        x.put(1, 0, 9);
        x.sheet(1, 0, 61);
        x.sheet(1, 0, -1);
        Check.due("changes nothing", x.cell(1, 0, 0), 9);
    }

    private static void lost() {
        IronRumours x = new IronRumours();
        for (int k = 0; k < 4; k++) {
            Check.due("lose(" + k + ")", x.lose(k), 0);
            x.sheet(k, k % 3, k);
            Check.due("lose(" + k + ")", x.lose(k), 1);
            Check.due("lose(" + k + ")", x.lose(k), 0);
            Check.due("put", x.put(k, 0, 0), -11);
        }
        Check.due("lose(4)", x.lose(4), -1);
        Check.due("lose(-1)", x.lose(-1), -1);
        Check.due("lose(HIGH)", x.lose(HIGH), -1);
    }

    private static void cellsAreCut() {
        int[] put = {127, 128, 255, 256, -128, -129, 32767, 32768, 65535, 65536, -32768, -32769, HIGH, LOW};
        int[] bytes = {127, -128, -1, 0, -128, 127, -1, 0, -1, 0, 0, -1, -1, 0};
        int[] shorts = {127, 128, 255, 256, -128, -129, 32767, -32768, -1, 0, -32768, 32767, -1, 0};
        IronRumours x = new IronRumours();
        Check.fill(x, 0, 0, put);
        Check.fill(x, 1, 1, put);
        Check.fill(x, 2, 2, put);
        for (int i = 0; i < put.length; i++) {
            Check.due(put[i] + " as a byte", x.cell(0, i, 0), bytes[i]);
            Check.due(put[i] + " as a short", x.cell(1, i, 1), shorts[i]);
            Check.due(put[i] + " as an int", x.cell(2, i, 2), put[i]);
        }
    }

    private static void faultsOfPut() {
        IronRumours x = new IronRumours();
        Check.due("put(4, 0, 0)", x.put(4, 0, 0), -1);
        Check.due("put(-1, 0, 0)", x.put(-1, 0, 0), -1);
        Check.due("put(0, -1, 0)", x.put(0, -1, 0), -11);
        Check.due("fault()", x.fault(), 1);
        x.sheet(0, 0, 5);
        Check.due("put(0, -1, 0)", x.put(0, -1, 0), -13);
        Check.due("fault()", x.fault(), 3);
        Check.due("put(0, 5, 0)", x.put(0, 5, 0), -13);
        Check.due("put(0, HIGH, 0)", x.put(0, HIGH, 0), -13);
        Check.due("put(0, LOW, 0)", x.put(0, LOW, 0), -13);
        Check.due("put(4, LOW, 0)", x.put(4, LOW, 0), -1);
        Check.due("fault()", x.fault(), 0);
        Check.due("put(0, 4, 300)", x.put(0, 4, 300), 1);
        Check.due("put(0, 0, 1)", x.put(0, 0, 1), 1);
        Check.due("cell(0, 4, 0)", x.cell(0, 4, 0), 44);
        Check.due("cell(0, 0, 0)", x.cell(0, 0, 0), 1);
        Check.due("cell(0, 1, 0)", x.cell(0, 1, 0), 0);
    }

    private static void faultsOfCell() {
        IronRumours x = new IronRumours();
        lostBy(x, 4, 0, 0, 0);
        lostBy(x, -1, 0, 3, 0);
        lostBy(x, 0, -1, 3, 0);
        lostBy(x, 0, 0, -1, 0);
        lostBy(x, 0, -1, 0, 1);
        x.sheet(0, 1, 3);
        lostBy(x, 0, -1, 0, 2);
        lostBy(x, 0, 0, 2, 2);
        lostBy(x, 0, -1, 1, 3);
        lostBy(x, 0, 3, 1, 3);
        lostBy(x, 0, HIGH, 1, 3);
        lostBy(x, 0, LOW, 1, 3);
        lostBy(x, 0, 0, 3, 0);
        lostBy(x, 0, 3, 1, 3);
        Check.due("cell(0, 2, 1)", x.cell(0, 2, 1), 0);
        Check.due("fault()", x.fault(), 0);
    }

    private static void lostBy(IronRumours x, int k, int i, int lane, int fault) {
        String call = "cell(" + k + ", " + i + ", " + lane + ")";
        Check.due(call, x.cell(k, i, lane), LOST);
        Check.due("fault() of " + call, x.fault(), fault);
    }

    private static void copies() {
        IronRumours x = new IronRumours();
        Check.fill(x, 0, 2, 1, 2, 3, 4, 5);
        Check.fill(x, 1, 2, 11, 12, 13, 14);
        Check.due("copy(0, 1, 1, 2, 2)", x.copy(0, 1, 1, 2, 2), 2);
        cells(x, 0, 2, 1, 2, 3, 4, 5);
        cells(x, 1, 2, 11, 12, 2, 3);
        Check.due("copy(1, 0, 0, 1, 4)", x.copy(1, 0, 0, 1, 4), 4);
        cells(x, 0, 2, 1, 11, 12, 2, 3);
        Check.due("none", x.copy(0, 5, 1, 4, 0), 0);
        Check.due("fault()", x.fault(), 0);
        Check.fill(x, 2, 0, 200);
        Check.fill(x, 3, 0, 0, 0);
        Check.due("bytes", x.copy(2, 0, 3, 1, 1), 1);
        cells(x, 3, 0, 0, -56);
    }

    private static void copiesOverThemselves() {
        IronRumours x = new IronRumours();
        Check.fill(x, 0, 1, 1, 2, 3, 4, 5);
        Check.due("copy(0, 0, 0, 1, 4)", x.copy(0, 0, 0, 1, 4), 4);
        cells(x, 0, 1, 1, 1, 2, 3, 4);
        Check.due("copy(0, 1, 0, 0, 4)", x.copy(0, 1, 0, 0, 4), 4);
        cells(x, 0, 1, 1, 2, 3, 4, 4);
        Check.due("copy(0, 0, 0, 0, 5)", x.copy(0, 0, 0, 0, 5), 5);
        cells(x, 0, 1, 1, 2, 3, 4, 4);
    }

    private static void faultsOfCopy() {
        IronRumours x = new IronRumours();
        Check.due("no such first", x.copy(4, 0, 0, 0, 0), -1);
        Check.due("no such other", x.copy(0, 0, 4, 0, 0), -1);
        Check.due("no such other", x.copy(0, 0, -1, 0, 0), -1);
        Check.due("two of nothing", x.copy(0, -1, 1, -1, -1), -11);
        x.sheet(0, 0, 5);
        Check.due("the other is nothing", x.copy(0, 0, 1, 0, 0), -11);
        Check.due("the first is nothing", x.copy(1, 0, 0, 0, 0), -11);
        Check.due("fault()", x.fault(), 1);
        x.sheet(1, 1, 3);
        Check.due("unlike lanes", x.copy(0, -1, 1, 0, -1), -12);
        Check.due("fault()", x.fault(), 2);
        x.sheet(1, 0, 3);
        int[][] beyond = {{-1, 0, 1}, {0, -1, 1}, {0, 0, -1}, {0, 0, 4}, {3, 0, 3}, {0, 1, 3}, {6, 0, 0}, {0, 4, 0},
            {-1, 0, 0}, {0, -1, 0}, {HIGH, 0, 1}, {0, HIGH, 1}, {1, 1, HIGH}, {HIGH, HIGH, HIGH}, {LOW, LOW, LOW},
            {LOW, 0, HIGH}, {5, 0, 1}, {0, 3, 1}};
        for (int[] c : beyond) {
            String call = "copy(0, " + c[0] + ", 1, " + c[1] + ", " + c[2] + ")";
            x.copy(4, 0, 0, 0, 0);
            Check.due(call, x.copy(0, c[0], 1, c[1], c[2]), -13);
            Check.due("fault() of " + call, x.fault(), 3);
        }
        Check.due("copy(0, 2, 1, 0, 3)", x.copy(0, 2, 1, 0, 3), 3);
        Check.due("fault()", x.fault(), 0);
    }

    private static void whichCallsNameFaults() {
        IronRumours x = Check.withText("it1l1;011");
        Check.due("fault() behind good calls", x.fault(), 0);
        x.put(0, 0, 0);
        x.lose(3);
        x.lose(4);
        x.telling(0, 0, 0);
        x.telling(9, 0, 0);
        x.undo(9);
        x.law(9);
        x.fog(9, true);
        x.hush(9, true);
        x.hears(9, 0, 0);
        x.count(9, 0, 0);
        x.forges(9, 0);
        x.works(9);
        x.path(9, 0, 0);
        x.fewest(9, 0, 0);
        x.hushed(9, 0, 0);
        x.worth(0);
        x.spare();
        x.reading(9, 0, 0, true);
        x.back(9);
        x.told(0, 0);
        x.mute();
        x.tell(1);
        x.greet(1);
        x.trace();
        x.many(9);
        x.ofPerson(0, 0);
        x.ofWay(0, 0);
        x.fault();
        Check.due("fault() behind calls that name none", x.fault(), 1);
        clears(x, "pass", x.pass(9, 0, 0, 0));
        clears(x, "rows", x.rows(0, 9, 0, 0, 0));
        clears(x, "sheet", x.sheet(9, 0, 0));
        clears(x, "put", x.put(9, 0, 0));
        clears(x, "cell", x.cell(9, 0, 0));
        clears(x, "copy", x.copy(9, 0, 0, 0, 0));
        clears(x, "as", x.as(9, 0));
        clears(x, "as a teller", x.as(0, 0));
    }

    /** Asks whether the call that came just ahead made fault() 0, and meets a fault for the next one. */
    private static void clears(IronRumours x, String call, long answer) {
        Check.due("fault() behind " + call + ", which answered " + answer, x.fault(), 0);
        Check.due("a liar's kind", x.as(0, 2), -12);
        Check.due("fault()", x.fault(), 2);
    }

    private static void cells(IronRumours x, int k, int lane, int... due) {
        for (int i = 0; i < due.length; i++) {
            Check.due("cell(" + k + ", " + i + ")", x.cell(k, i, lane), due[i]);
        }
        Check.due("behind the last cell", x.cell(k, due.length, lane), LOST);
    }
}
