/** Promise 13: close. */
public final class Promise13CloseTest extends Promise {
    public static void main(String[] args) throws ReflectiveOperationException {
        new Promise13CloseTest().run();
    }

    void noStreetIsState() {
        refused("no street", Made::bare, x -> x.close(), STATE);
    }

    void itTellsHowManyLinesItHad() {
        is("4", Made.standing().close(), 4);
        is("16", Made.fullLog().close(), 16);
    }

    void anEmptyLogIsClosedToo() {
        DummyInches x = Made.street(Made.ALL);
        is("none", x.close(), 0);
        is("again", x.close(), 0);
        is("acts", x.count(5), 2);
        DummyInches y = Made.street("w2;");
        is("no dummies", y.close(), 0);
    }

    void theLogIsEmptyThen() {
        DummyInches x = Made.fullLog();
        x.close();
        is("lines", x.count(3), 0);
        is("years", x.count(4), 0);
        is("line 0", x.line(0, 0), BAD);
        is("was 1", x.was(1, 0, 0), BAD);
        is("no telling is there", x.most(0, 2, 0), NONE);
    }

    void madeAndCustomerAreAsTheDummyIs() {
        DummyInches x = Made.street(Made.ALL);
        x.tell(2, 0, 0, 9);
        x.tell(1, 2, 1, 9);
        x.swap(0, 1);
        x.year();
        int[] inches = new int[9];
        for (int k = 0; k < 9; k++) {
            inches[k] = x.dummy(k / 3, k % 3, 0);
        }
        is("closed", x.close(), 4);
        for (int k = 0; k < 9; k++) {
            is("inches", x.dummy(k / 3, k % 3, 0), inches[k]);
            is("made", x.dummy(k / 3, k % 3, 1), inches[k]);
            is("customer", x.dummy(k / 3, k % 3, 2), inches[k]);
            is("pinches", x.dummy(k / 3, k % 3, 3), 0);
        }
        is("31 of them", inches[3], 31);
        is("94 of them", inches[7], 94);
    }

    void itIsAnAct() {
        DummyInches x = Made.standing();
        x.close();
        is("acts", x.count(5), 8);
    }

    void statusStays() {
        DummyInches x = Made.standing();
        x.drop(7);
        x.close();
        is("status", x.status(), 1);
    }
}
