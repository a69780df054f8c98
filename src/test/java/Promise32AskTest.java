/** Promise 32: ask, with the bodies of part 4. */
public final class Promise32AskTest extends Promise {
    public static void main(String[] args) throws ReflectiveOperationException {
        new Promise32AskTest().run();
    }

    private void asked(DummyInches x, int one, int what, int want, int... trace) {
        is("ask " + one + ", " + what, x.ask(one, what), want);
        for (int i = 0; i < trace.length; i++) {
            is("trace " + i + " of " + one + ", " + what, x.trace(i), trace[i]);
        }
        is("its end, of " + one + ", " + what, x.trace(trace.length), NONE);
    }

    /** Each mouth has told twice, the cook once more. */
    private static DummyInches told() {
        DummyInches x = Made.street(Made.ALL);
        for (int one = 0; one < 5; one++) {
            x.tell(one, 0, 0, 1);
            x.tell(one, 1, 1, 1);
        }
        x.tell(1, 2, 2, 0);
        x.year();
        x.swap(0, 1);
        return x;
    }

    void ofValets() {
        asked(told(), 0, 0, 5 + 0 + 2, 11, 10, 21, 20);
        asked(told(), 0, 1, 0 + 2, 21, 20);
    }

    void ofCooks() {
        asked(told(), 1, 0, -(3 + 2 * (1 + 3)), 12, 11, 10, 24, 21, 20);
        asked(told(), 1, 1, 2 * (1 + 3), 24, 21, 20);
    }

    void ofRivals() {
        asked(told(), 2, 0, 9 + 2 + 2 - 1000, 11, 10, 22, 21, 20);
        asked(told(), 2, 1, 2 + 2 - 1000, 22, 21, 20);
    }

    void ofGossips() {
        asked(told(), 3, 0, 1 - 100, 13, 10);
        asked(told(), 3, 1, 3 - (1 - 100), 23, 20, 13, 10);
    }

    void ofSpies() {
        asked(told(), 4, 0, 2 * (0 - 100), 14, 13, 10);
        asked(told(), 4, 1, 4 - 2 * (0 - 100), 23, 20, 14, 13, 10);
    }

    void bribesAre0And99() {
        DummyInches x = Made.street("w2;v0;v99;g0;g99;");
        asked(x, 0, 0, 0, 11, 10, 21, 20);
        asked(x, 1, 0, 100, 11, 10, 21, 20);
        asked(x, 2, 0, -100, 13, 10);
        asked(x, 3, 0, -1, 13, 10);
    }

    void tellingsOfTheLogAlone() {
        DummyInches x = told();
        x.close();
        asked(x, 0, 1, 0, 21, 20);
        asked(x, 1, 0, -5, 12, 11, 10, 24, 21, 20);
        x.undo();
        asked(x, 0, 1, 2, 21, 20);
    }

    void up16TellingsOfOne() {
        DummyInches x = Made.street("w2;d0,0,0;v0;v0;");
        for (int n = 0; n < 16; n++) {
            x.tell(1, 0, 0, 1);
        }
        asked(x, 1, 1, 17, 21, 20);
        asked(x, 0, 1, 0, 21, 20);
    }

    void whatIs0Or1() {
        refused("what -1", Made::standing, x -> x.ask(0, -1), BAD);
        refused("what 2", Made::standing, x -> x.ask(0, 2), BAD);
        refused("what most", Made::standing, x -> x.ask(0, MOST), BAD);
        refused("what least", Made::standing, x -> x.ask(0, LEAST), BAD);
    }

    void mouthsAreThoseOfTheStreet() {
        refused("mouth -1", Made::standing, x -> x.ask(-1, 0), BAD);
        refused("mouth 5", Made::standing, x -> x.ask(5, 0), BAD);
        refused("mouth most", Made::standing, x -> x.ask(MOST, 0), BAD);
        refused("mouth least", Made::standing, x -> x.ask(LEAST, 0), BAD);
        refused("no mouths", () -> Made.street("w2;d1,2,3;"), x -> x.ask(0, 0), BAD);
        refused("no street", Made::bare, x -> x.ask(0, 0), BAD);
    }

    void aRefusedAskLeavesTheTrace() {
        DummyInches x = Made.street(Made.ALL);
        x.ask(3, 0);
        x.ask(5, 0);
        x.ask(0, 2);
        is("first", x.trace(0), 13);
        is("second", x.trace(1), 10);
        is("its end", x.trace(2), NONE);
    }

    void theTraceIsEmptyAheadOfIt() {
        DummyInches x = Made.street(Made.ALL);
        asked(x, 1, 0, -5, 12, 11, 10, 24, 21, 20);
        asked(x, 3, 0, -99, 13, 10);
        asked(x, 3, 0, -99, 13, 10);
    }

    /** The ask made last in standing(), so that the traces are alike. */
    void nothingElseChanges() {
        foretold("ask", Made::standing, x -> x.ask(4, 1), 204);
    }
}
