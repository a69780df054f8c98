/** Promise 9: undo, with the acts of part 2. */
public final class Promise09UndoTest extends Promise {
    public static void main(String[] args) throws ReflectiveOperationException {
        new Promise09UndoTest().run();
    }

    void noneIsState() {
        refused("no street", Made::bare, x -> x.undo(), STATE);
        refused("nothing was done", () -> Made.street(Made.ALL), x -> x.undo(), STATE);
        refused("all is undone", Promise09UndoTest::undone, x -> x.undo(), STATE);
    }

    private static DummyInches undone() {
        DummyInches x = Made.standing();
        for (int n = x.count(5); n > 0; n--) {
            x.undo();
        }
        return x;
    }

    void itTellsHowManyYet() {
        DummyInches x = Made.standing();
        for (int n = 6; n >= 0; n--) {
            is("undone", x.undo(), n);
            is("acts", x.count(5), n);
        }
    }

    void aTellingIsUndone() {
        DummyInches x = Made.street(Made.ALL);
        x.tell(1, 0, 0, 6);
        x.undo();
        is("inches", x.dummy(0, 0, 0), 40);
        is("customer", x.dummy(0, 0, 2), 40);
        is("lines", x.count(3), 0);
        is("mark", x.ask(0, 1), 0);
    }

    void aYearIsUndone() {
        DummyInches x = Made.street(Made.ALL);
        x.tell(1, 0, 0, 6);
        x.year();
        x.undo();
        is("inches", x.dummy(0, 0, 0), 52);
        is("lines", x.count(3), 1);
        is("years", x.count(4), 0);
    }

    void aSwapIsUndone() {
        DummyInches x = Made.street(Made.ALL);
        x.swap(0, 2);
        x.undo();
        is("inches of 0", x.dummy(0, 0, 0), 40);
        is("inches of 2", x.dummy(2, 2, 0), 70);
        is("lines", x.count(3), 0);
    }

    void aCloseIsUndone() {
        DummyInches x = Made.street(Made.ALL);
        x.tell(1, 0, 0, 6);
        x.year();
        x.close();
        is("undone", x.undo(), 2);
        is("lines", x.count(3), 2);
        is("years", x.count(4), 1);
        is("made", x.dummy(0, 0, 1), 40);
        is("customer", x.dummy(0, 0, 2), 46);
        is("inches", x.dummy(0, 0, 0), 49);
        is("padded", x.line(0, 5), 12);
        is("was", x.was(1, 0, 0), 52);
    }

    void aCloseOfAnEmptyLogIsUndone() {
        DummyInches x = Made.street(Made.ALL);
        x.close();
        is("acts", x.count(5), 1);
        is("undone", x.undo(), 0);
    }

    /** Each act is known by the lines there are behind it, and by the inches of dummy 0. */
    private static final class Acted {
        final DummyInches x = Made.street("w2;d0,0,0;v0;");
        final int[] inches;
        final int[] lines;

        Acted(int acts) {
            inches = new int[acts + 1];
            lines = new int[acts + 1];
            for (int n = 1; n <= acts; n++) {
                boolean closes = n % 10 == 0;
                if (closes) {
                    x.close();
                } else {
                    x.tell(0, 0, 0, 1);
                }
                inches[n] = inches[n - 1] + (closes ? 0 : 1);
                lines[n] = closes ? 0 : lines[n - 1] + 1;
            }
        }
    }

    private void undoesAll(Acted acted, int acts, int kept) {
        is("acts of " + acts, acted.x.count(5), kept);
        for (int n = 1; n <= kept; n++) {
            is("undone of " + acts, acted.x.undo(), kept - n);
            is("inches of " + acts, acted.x.dummy(0, 0, 0), acted.inches[acts - n]);
            is("lines of " + acts, acted.x.count(3), acted.lines[acts - n]);
        }
        is("none of " + acts, acted.x.undo(), STATE);
        is("acts left of " + acts, acted.x.count(5), 0);
    }

    void upTo24ActsAreKept() {
        for (int acts : new int[] {1, 2, 10, 23, 24}) {
            undoesAll(new Acted(acts), acts, acts);
        }
    }

    void ofMoreThan24TheOldestIsForgotten() {
        for (int acts : new int[] {25, 26, 47, 48, 49, 60}) {
            undoesAll(new Acted(acts), acts, 24);
        }
    }

    void behindAllUndone24AreKeptAgain() {
        Acted acted = new Acted(30);
        for (int n = 0; n < 24; n++) {
            acted.x.undo();
        }
        is("inches", acted.x.dummy(0, 0, 0), 6);
        is("lines", acted.x.count(3), 6);
        acted.x.close();
        for (int n = 1; n <= 15; n++) {
            is("told", acted.x.tell(0, 0, 0, 1), 6 + n);
        }
        acted.x.close();
        for (int n = 1; n <= 9; n++) {
            acted.x.year();
        }
        is("acts", acted.x.count(5), 24);
        for (int n = 23; n >= 0; n--) {
            is("undone", acted.x.undo(), n);
        }
        is("none", acted.x.undo(), STATE);
        is("the first two of 26, a close and a telling, stay", acted.x.dummy(0, 0, 0), 7);
        is("one line", acted.x.count(3), 1);
    }

    void aRefusedCallIsNoAct() {
        DummyInches x = Made.standing();
        x.tell(5, 0, 0, 1);
        x.tell(0, 0, 0, 100);
        x.swap(1, 1);
        x.restore(1);
        is("acts", x.count(5), 7);
        DummyInches y = Made.fullLog();
        int acts = y.count(5);
        y.tell(0, 0, 0, 1);
        y.year();
        y.swap(0, 1);
        is("FULL", y.count(5), acts);
    }

    void nothingElseIsAnAct() {
        DummyInches x = Made.standing();
        x.image(1);
        x.ask(0, 0);
        x.row(0, 0, 1);
        x.feed('w');
        x.street();
        x.was(1, 0, 0);
        x.twins(-1);
        is("acts", x.count(5), 7);
    }

    void whatIsUndoneIsGone() {
        DummyInches x = Made.street("w2;d0,0,0;v0;");
        x.tell(0, 0, 0, 1);
        x.tell(0, 0, 0, 2);
        x.undo();
        x.tell(0, 0, 0, 4);
        is("acts", x.count(5), 2);
        is("inches", x.dummy(0, 0, 0), 5);
        is("t of the line", x.line(1, 4), 4);
        is("undone", x.undo(), 1);
        is("inches", x.dummy(0, 0, 0), 1);
        is("undone", x.undo(), 0);
        is("inches", x.dummy(0, 0, 0), 0);
    }

    void aFullLogHasRoomAgain() {
        DummyInches x = Made.fullLog();
        is("full", x.year(), FULL);
        x.undo();
        is("lines", x.count(3), 15);
        is("the 16th", x.year(), 0);
        is("full", x.year(), FULL);
    }

    void restoredNothingCanBeUndone() {
        DummyInches x = Made.standing();
        x.restore(0);
        is("none", x.undo(), STATE);
    }

    void statusStays() {
        DummyInches x = Made.standing();
        x.drop(7);
        x.undo();
        is("status", x.status(), 1);
    }
}
