/** Promise 15: line. */
public final class Promise15LineTest extends Promise {
    public static void main(String[] args) throws ReflectiveOperationException {
        new Promise15LineTest().run();
    }

    private void lineIs(DummyInches x, int line, int... parts) {
        for (int what = 0; what < parts.length; what++) {
            is("line " + line + ", what " + what, x.line(line, what), parts[what]);
        }
    }

    void aTelling() {
        DummyInches x = Made.street(Made.ALL);
        x.tell(1, 2, 1, 8);
        x.tell(3, 0, 2, -5);
        x.tell(4, 1, 0, 99);
        x.tell(0, 0, 0, 0);
        lineIs(x, 0, 0, 1, 2, 1, 8, 16);
        lineIs(x, 1, 0, 3, 0, 2, -5, -2);
        lineIs(x, 2, 0, 4, 1, 0, 99, -49);
        lineIs(x, 3, 0, 0, 0, 0, 0, 0);
    }

    void aYear() {
        DummyInches x = Made.street(Made.ALL);
        x.tell(1, 2, 1, 8);
        x.year();
        lineIs(x, 1, 1, NONE, NONE, NONE, 0, 0);
    }

    void aSwapTellsTheLesserFirst() {
        DummyInches x = Made.street(Made.ALL);
        x.swap(2, 1);
        x.swap(0, 1);
        lineIs(x, 0, 2, 1, 2, NONE, 0, 0);
        lineIs(x, 1, 2, 0, 1, NONE, 0, 0);
    }

    void linesAreThoseOfTheLog() {
        DummyInches x = Made.fullLog();
        is("line 0", x.line(0, 0), 0);
        is("line 15", x.line(15, 0), 1);
        refused("line -1", Made::fullLog, y -> y.line(-1, 0), BAD);
        refused("line 16", Made::fullLog, y -> y.line(16, 0), BAD);
        refused("line 4 of 4", Made::standing, y -> y.line(4, 0), BAD);
        is("line 3 of 4", Made.standing().line(3, 0), 0);
        refused("line most", Made::standing, y -> y.line(MOST, 0), BAD);
        refused("line least", Made::standing, y -> y.line(LEAST, 0), BAD);
        refused("no street", Made::bare, y -> y.line(0, 0), BAD);
        refused("no lines", () -> Made.street(Made.ALL), y -> y.line(0, 0), BAD);
    }

    void undoneAndClosedLinesAreNone() {
        DummyInches x = Made.standing();
        x.undo();
        is("undone", x.line(3, 0), BAD);
        is("the one ahead", x.line(2, 0), 2);
        x.close();
        is("closed", x.line(0, 0), BAD);
    }

    void whatIs0To5() {
        refused("what -1", Made::standing, y -> y.line(0, -1), BAD);
        refused("what 6", Made::standing, y -> y.line(0, 6), BAD);
        refused("what 6 of the last", Made::fullLog, y -> y.line(15, 6), BAD);
        refused("what most", Made::standing, y -> y.line(0, MOST), BAD);
        refused("what least", Made::standing, y -> y.line(1, LEAST), BAD);
    }

    void nothingChanges() {
        int[] want = {0, 1, 1, 1, 10, 20};
        for (int k = 0; k < 6; k++) {
            int what = k;
            foretold("what " + what, Made::standing, x -> x.line(0, what), want[what]);
        }
    }
}
