/** Promise 12: swap. */
public final class Promise12SwapTest extends Promise {
    public static void main(String[] args) throws ReflectiveOperationException {
        new Promise12SwapTest().run();
    }

    void dummiesAreThoseOfTheStreet() {
        DummyInches x = Made.street(Made.ALL);
        is("first and last", x.swap(0, 2), 1);
        is("last and first", x.swap(2, 0), 2);
        refused("a -1", Made::standing, y -> y.swap(-1, 0), BAD);
        refused("b -1", Made::standing, y -> y.swap(0, -1), BAD);
        refused("a 3", Made::standing, y -> y.swap(3, 0), BAD);
        refused("b 3", Made::standing, y -> y.swap(0, 3), BAD);
        refused("most", Made::standing, y -> y.swap(MOST, LEAST), BAD);
        DummyInches four = Made.street("w2;d1,1,1;d2,2,2;d3,3,3;d4,4,4;");
        is("3 of four", four.swap(3, 2), 1);
        is("4 of four", four.swap(3, 4), BAD);
    }

    void alikeIsBad() {
        refused("0 and 0", Made::standing, y -> y.swap(0, 0), BAD);
        refused("2 and 2", Made::standing, y -> y.swap(2, 2), BAD);
    }

    void noStreetNoDummiesOneDummyAreBad() {
        refused("no street", Made::bare, y -> y.swap(0, 1), BAD);
        refused("no dummies", () -> Made.street("w2;v1;"), y -> y.swap(0, 1), BAD);
        refused("one dummy", () -> Made.street("w2;d1,2,3;"), y -> y.swap(0, 1), BAD);
        refused("one dummy with itself", () -> Made.street("w2;d1,2,3;"), y -> y.swap(0, 0), BAD);
    }

    void theLogHas16LinesAtMost() {
        DummyInches x = Made.street(Made.ALL);
        for (int n = 1; n <= 16; n++) {
            is("swap " + n, x.swap(0, 1), n);
        }
        is("17th", x.swap(0, 1), FULL);
        refused("17th", Made::fullLog, y -> y.swap(0, 1), FULL);
    }

    void badIsAheadOfFull() {
        refused("alike", Made::fullLog, y -> y.swap(1, 1), BAD);
        refused("no such dummy", Made::fullLog, y -> y.swap(0, 3), BAD);
    }

    void eachHasTheInchesOfTheOther() {
        DummyInches x = Made.street(Made.ALL);
        x.tell(0, 2, 0, 5);
        is("lines", x.swap(2, 0), 2);
        int[] of0 = {95, 80, 70};
        int[] of2 = {40, 30, 20};
        for (int place = 0; place < 3; place++) {
            is("0 has", x.dummy(0, place, 0), of0[place]);
            is("2 has", x.dummy(2, place, 0), of2[place]);
        }
        is("1 has", x.dummy(1, 1, 0), 35);
    }

    void madeAndCustomerAreAsBefore() {
        DummyInches x = Made.street(Made.ALL);
        x.tell(0, 2, 0, 5);
        x.swap(0, 2);
        is("0 made", x.dummy(0, 0, 1), 40);
        is("0 customer", x.dummy(0, 0, 2), 40);
        is("0 pinches", x.dummy(0, 0, 3), -55);
        is("2 made", x.dummy(2, 0, 1), 90);
        is("2 customer", x.dummy(2, 0, 2), 95);
        is("2 pinches", x.dummy(2, 0, 3), 55);
    }

    void twiceIsAsBefore() {
        DummyInches x = Made.street(Made.ALL);
        x.swap(0, 1);
        is("again", x.swap(1, 0), 2);
        is("0 has", x.dummy(0, 0, 0), 40);
        is("1 has", x.dummy(1, 0, 0), 41);
    }

    void statusStays() {
        DummyInches x = Made.standing();
        x.drop(7);
        x.swap(0, 1);
        is("status", x.status(), 1);
    }
}
