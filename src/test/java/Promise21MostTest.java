/** Promise 21: most. */
public final class Promise21MostTest extends Promise {
    public static void main(String[] args) throws ReflectiveOperationException {
        new Promise21MostTest().run();
    }

    private void most(DummyInches x, int dummy, int place, int who, int howMuch) {
        is("who", x.most(dummy, place, 0), who);
        is("how much", x.most(dummy, place, 1), howMuch);
    }

    void dummiesAreThoseOfTheStreet() {
        most(Made.standing(), 2, 0, NONE, NONE);
        refused("dummy -1", Made::standing, x -> x.most(-1, 0, 0), BAD);
        refused("dummy 3", Made::standing, x -> x.most(3, 0, 0), BAD);
        refused("dummy most", Made::standing, x -> x.most(MOST, 0, 0), BAD);
        refused("no dummies", () -> Made.street("w2;v1;"), x -> x.most(0, 0, 0), BAD);
        refused("no street", Made::bare, x -> x.most(0, 0, 0), BAD);
    }

    void placesAre0To2() {
        most(Made.standing(), 0, 2, 3, -2);
        refused("place -1", Made::standing, x -> x.most(0, -1, 0), BAD);
        refused("place 3", Made::standing, x -> x.most(0, 3, 0), BAD);
        refused("place most", Made::standing, x -> x.most(0, MOST, 0), BAD);
    }

    void whatIs0Or1() {
        refused("what -1", Made::standing, x -> x.most(0, 0, -1), BAD);
        refused("what 2", Made::standing, x -> x.most(0, 0, 2), BAD);
        refused("what most", Made::standing, x -> x.most(0, 0, MOST), BAD);
    }

    void noTellingIsNone() {
        most(Made.street(Made.ALL), 0, 0, NONE, NONE);
        most(Made.street("w2;d1,2,3;"), 0, 0, NONE, NONE);
        DummyInches x = Made.street(Made.ALL);
        x.year();
        x.swap(0, 1);
        most(x, 0, 0, NONE, NONE);
    }

    void anotherPlaceAndAnotherDummyDoNotMatter() {
        DummyInches x = Made.street(Made.ALL);
        x.tell(0, 1, 1, 5);
        most(x, 1, 1, 0, 5);
        most(x, 1, 0, NONE, NONE);
        most(x, 1, 2, NONE, NONE);
        most(x, 0, 1, NONE, NONE);
        most(x, 2, 1, NONE, NONE);
    }

    void byMostWithNoSign() {
        DummyInches x = Made.street(Made.ALL);
        x.tell(0, 0, 0, 5);
        x.tell(2, 0, 0, 6);
        most(x, 0, 0, 2, -6);
        x.tell(0, 0, 0, 2);
        most(x, 0, 0, 0, 7);
    }

    void ofSeveralTheFirst() {
        DummyInches x = Made.street(Made.ALL);
        x.tell(2, 0, 0, 5);
        x.tell(0, 0, 0, 5);
        most(x, 0, 0, 0, 5);
        DummyInches y = Made.street(Made.ALL);
        y.tell(4, 0, 0, 10);
        y.tell(2, 0, 0, 5);
        most(y, 0, 0, 2, -5);
    }

    void tellingsAreAddedWithTheirSigns() {
        DummyInches x = Made.street(Made.ALL);
        x.tell(0, 0, 0, 5);
        x.tell(2, 0, 0, 9);
        most(x, 0, 0, 2, -9);
        x.tell(2, 0, 0, -5);
        most(x, 0, 0, 0, 5);
        x.tell(2, 0, 0, -10);
        most(x, 0, 0, 2, 6);
    }

    void whatWasPaddedCountsNotT() {
        DummyInches x = Made.street(Made.ALL);
        x.tell(3, 0, 0, 9);
        x.tell(1, 0, 0, 3);
        most(x, 0, 0, 1, 6);
    }

    void aTellingThatPads0IsOneToo() {
        DummyInches x = Made.street(Made.ALL);
        x.tell(3, 0, 0, 1);
        most(x, 0, 0, 3, 0);
        x.tell(2, 0, 0, 0);
        most(x, 0, 0, 2, 0);
        x.tell(4, 0, 0, 2);
        most(x, 0, 0, 4, -1);
    }

    void yearsAndSwapsDoNotMatter() {
        DummyInches x = Made.street(Made.ALL);
        x.tell(1, 0, 0, 20);
        x.year();
        x.swap(0, 1);
        most(x, 0, 0, 1, 40);
        most(x, 1, 0, NONE, NONE);
    }

    void theLogAlone() {
        DummyInches x = Made.street(Made.ALL);
        x.tell(1, 0, 0, 20);
        x.close();
        most(x, 0, 0, NONE, NONE);
        x.undo();
        most(x, 0, 0, 1, 40);
        x.undo();
        most(x, 0, 0, NONE, NONE);
    }

    void all16Lines() {
        DummyInches x = Made.street("w2;d0,0,0;v0;r0;");
        for (int n = 0; n < 7; n++) {
            x.tell(1, 0, 0, 2);
        }
        for (int n = 0; n < 9; n++) {
            x.tell(0, 0, 0, 2);
        }
        most(x, 0, 0, 0, 18);
    }

    void nothingChanges() {
        foretold("who", Made::standing, x -> x.most(1, 1, 0), 1);
        foretold("how much", Made::standing, x -> x.most(1, 1, 1), 20);
        foretold("none", Made::standing, x -> x.most(2, 2, 1), NONE);
    }
}
