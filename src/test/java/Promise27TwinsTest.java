/** Promise 27: twins. */
public final class Promise27TwinsTest extends Promise {
    public static void main(String[] args) throws ReflectiveOperationException {
        new Promise27TwinsTest().run();
    }

    private void paired(DummyInches x, int howMuch, int... partners) {
        is("how much", x.twins(-1), howMuch);
        for (int dummy = 0; dummy < partners.length; dummy++) {
            is("with " + dummy, x.twins(dummy), partners[dummy]);
        }
        is("no such dummy", x.twins(partners.length), BAD);
        is("-2", x.twins(-2), BAD);
    }

    void noStreetIsStateAheadOfBad() {
        refused("no street", Made::bare, x -> x.twins(-1), STATE);
        refused("dummy 0", Made::bare, x -> x.twins(0), STATE);
        refused("dummy 9", Made::bare, x -> x.twins(9), STATE);
        refused("dummy -2", Made::bare, x -> x.twins(-2), STATE);
    }

    void dummiesAreThoseOfTheStreet() {
        refused("dummy -2", Made::standing, x -> x.twins(-2), BAD);
        refused("dummy 3", Made::standing, x -> x.twins(3), BAD);
        refused("dummy most", Made::standing, x -> x.twins(MOST), BAD);
        refused("dummy least", Made::standing, x -> x.twins(LEAST), BAD);
    }

    void noDummiesAreInNoPairs() {
        paired(Made.street("w2;"), 0);
        refused("dummy 0", () -> Made.street("w2;v1;"), x -> x.twins(0), BAD);
    }

    void oneIsLeftOut() {
        paired(Made.street("w2;d1,2,3;"), 0, NONE);
    }

    void twoAreAPair() {
        paired(Made.street("w2;d1,2,3;d3,0,4;"), 5, 1, 0);
        paired(Made.street("w2;d0,0,0;d99,99,99;"), 297, 1, 0);
        paired(Made.street("w2;d1,2,3;d1,2,3;"), 0, 1, 0);
    }

    void ofThreeOneIsLeftOut() {
        paired(Made.street("w2;d90,0,0;d1,0,0;d2,0,0;"), 1, NONE, 2, 1);
        paired(Made.street("w2;d1,0,0;d90,0,0;d2,0,0;"), 1, 2, NONE, 0);
        paired(Made.street("w2;d1,0,0;d2,0,0;d90,0,0;"), 1, 1, 0, NONE);
    }

    void ofThreeTheFirstWay() {
        paired(Made.street("w2;d1,0,0;d1,0,0;d1,0,0;"), 0, 1, 0, NONE);
        paired(Made.street("w2;d2,0,0;d1,0,0;d3,0,0;"), 1, 1, 0, NONE);
        paired(Made.street("w2;d1,0,0;d3,0,0;d2,0,0;"), 1, 2, NONE, 0);
        paired(Made.street("w2;d5,0,0;d9,0,0;d1,0,0;"), 4, 1, 0, NONE);
    }

    void ofFourEachWay() {
        paired(Made.street("w2;d2,0,0;d3,0,0;d9,0,0;d9,9,0;"), 10, 1, 0, 3, 2);
        paired(Made.street("w2;d2,0,0;d9,0,0;d3,0,0;d9,9,0;"), 10, 2, 3, 0, 1);
        paired(Made.street("w2;d2,0,0;d9,0,0;d9,0,0;d2,0,9;"), 9, 3, 2, 1, 0);
    }

    void ofFourTheFirstWay() {
        paired(Made.street("w2;d1,1,1;d1,1,1;d1,1,1;d1,1,1;"), 0, 1, 0, 3, 2);
        paired(Made.street("w2;d0,0,0;d9,0,0;d9,9,0;d0,9,0;"), 18, 1, 0, 3, 2);
        paired(Made.street("w2;d0,0,0;d9,9,0;d9,0,0;d0,9,0;"), 18, 2, 3, 0, 1);
    }

    void allPlacesAreAddedWithNoSigns() {
        paired(Made.street("w2;d10,20,30;d13,16,35;"), 12, 1, 0);
        paired(Made.street("w2;d13,16,35;d10,20,30;"), 12, 1, 0);
    }

    void inchesAsTheyAreNow() {
        DummyInches x = Made.street("w2;d1,1,1;d1,1,1;d1,1,1;d1,1,1;v0;");
        x.tell(0, 0, 0, -50);
        x.tell(0, 2, 0, -50);
        paired(x, 0, 2, 3, 0, 1);
        x.swap(0, 1);
        paired(x, 0, 3, 2, 1, 0);
    }

    void nothingChanges() {
        foretold("how much", Made::standing, x -> x.twins(-1), 6 + 20 + 2);
        foretold("with whom", Made::standing, x -> x.twins(2), 1);
        foretold("left out", Made::standing, x -> x.twins(0), NONE);
    }
}
