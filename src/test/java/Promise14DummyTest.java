/** Promise 14: dummy. */
public final class Promise14DummyTest extends Promise {
    public static void main(String[] args) throws ReflectiveOperationException {
        new Promise14DummyTest().run();
    }

    void dummiesAreThoseOfTheStreet() {
        DummyInches x = Made.street(Made.ALL);
        is("first", x.dummy(0, 0, 0), 40);
        is("last", x.dummy(2, 0, 0), 90);
        refused("dummy -1", Made::standing, y -> y.dummy(-1, 0, 0), BAD);
        refused("dummy 3", Made::standing, y -> y.dummy(3, 0, 0), BAD);
        refused("dummy most", Made::standing, y -> y.dummy(MOST, 0, 0), BAD);
        refused("dummy least", Made::standing, y -> y.dummy(LEAST, 0, 0), BAD);
        refused("no dummies", () -> Made.street("w2;v1;"), y -> y.dummy(0, 0, 0), BAD);
        refused("no street", Made::bare, y -> y.dummy(0, 0, 0), BAD);
    }

    void placesAre0To2() {
        DummyInches x = Made.street(Made.ALL);
        is("last", x.dummy(1, 2, 0), 22);
        refused("place -1", Made::standing, y -> y.dummy(1, -1, 0), BAD);
        refused("place 3", Made::standing, y -> y.dummy(1, 3, 0), BAD);
        refused("place most", Made::standing, y -> y.dummy(0, MOST, 0), BAD);
        refused("place least", Made::standing, y -> y.dummy(0, LEAST, 0), BAD);
    }

    void whatIs0To3() {
        DummyInches x = Made.street(Made.ALL);
        x.tell(1, 1, 1, 10);
        is("inches", x.dummy(1, 1, 0), 55);
        is("made", x.dummy(1, 1, 1), 35);
        is("customer", x.dummy(1, 1, 2), 45);
        is("pinches", x.dummy(1, 1, 3), -10);
        refused("what -1", Made::standing, y -> y.dummy(1, 1, -1), BAD);
        refused("what 4", Made::standing, y -> y.dummy(1, 1, 4), BAD);
        refused("what most", Made::standing, y -> y.dummy(1, 1, MOST), BAD);
        refused("what least", Made::standing, y -> y.dummy(1, 1, LEAST), BAD);
    }

    void itPinchesByAllThatCanBe() {
        DummyInches x = Made.street("w2;d0,0,0;r0;");
        for (int n = 0; n < 10; n++) {
            x.tell(0, 0, 0, 99);
        }
        x.tell(0, 0, 0, 9);
        is("most", x.dummy(0, 0, 3), 1998);
        DummyInches y = Made.street("w2;d0,0,0;r0;");
        for (int n = 0; n < 10; n++) {
            y.tell(0, 0, 0, -99);
        }
        y.tell(0, 0, 0, -9);
        is("least", y.dummy(0, 0, 3), -1998);
    }

    void nothingChanges() {
        for (int k = 0; k < 4; k++) {
            int what = k;
            int[] want = {90, 47, 47, -43};
            foretold("what " + what, Made::standing, x -> x.dummy(0, 0, what), want[what]);
        }
    }
}
