/** Promise 33: trace. */
public final class Promise33TraceTest extends Promise {
    public static void main(String[] args) throws ReflectiveOperationException {
        new Promise33TraceTest().run();
    }

    void aNewTraceIsEmpty() {
        DummyInches x = new DummyInches();
        is("0", x.trace(0), NONE);
        is("-1", x.trace(-1), NONE);
        is("15", x.trace(15), NONE);
        is("16", x.trace(16), NONE);
    }

    void numbersGoFrom0On() {
        DummyInches x = Made.street(Made.ALL);
        x.ask(1, 0);
        int[] want = {12, 11, 10, 24, 21, 20, NONE, NONE};
        for (int i = 0; i < want.length; i++) {
            is("number " + i, x.trace(i), want[i]);
        }
    }

    void noSuchNumberIsNone() {
        foretold("-1", Made::standing, x -> x.trace(-1), NONE);
        foretold("5", Made::standing, x -> x.trace(5), NONE);
        foretold("16", Made::standing, x -> x.trace(16), NONE);
        foretold("most", Made::standing, x -> x.trace(MOST), NONE);
        foretold("least", Made::standing, x -> x.trace(LEAST), NONE);
        foretold("no street", Made::bare, x -> x.trace(0), NONE);
    }

    void aShorterTraceHasNothingOfTheOneBefore() {
        DummyInches x = Made.street(Made.ALL);
        x.ask(1, 0);
        x.ask(0, 1);
        is("first", x.trace(0), 21);
        is("last", x.trace(1), 20);
        is("beyond", x.trace(2), NONE);
        is("beyond", x.trace(5), NONE);
    }

    void nothingChanges() {
        foretold("first", Made::standing, x -> x.trace(0), 23);
        foretold("last", Made::standing, x -> x.trace(4), 10);
    }
}
