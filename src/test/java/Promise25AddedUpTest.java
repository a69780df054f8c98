/** Promise 25: addedUp. */
public final class Promise25AddedUpTest extends Promise {
    public static void main(String[] args) throws ReflectiveOperationException {
        new Promise25AddedUpTest().run();
    }

    private void repaired(DummyInches x, int s, int howMany, int which) {
        is("how many, s " + s, x.addedUp(0, s, 0), howMany);
        is("which, s " + s, x.addedUp(0, s, 1), which);
    }

    void dummiesAreThoseOfTheStreet() {
        is("last", Made.street(Made.ALL).addedUp(2, 240, 0), 0);
        refused("dummy -1", Made::standing, x -> x.addedUp(-1, 0, 0), BAD);
        refused("dummy 3", Made::standing, x -> x.addedUp(3, 0, 0), BAD);
        refused("dummy most", Made::standing, x -> x.addedUp(MOST, 0, 0), BAD);
        refused("no dummies", () -> Made.street("w2;v1;"), x -> x.addedUp(0, 0, 0), BAD);
        refused("no street", Made::bare, x -> x.addedUp(0, 0, 0), BAD);
    }

    void sIs0To297() {
        DummyInches x = Made.street(Made.ALL);
        repaired(x, 0, 3, 7);
        repaired(x, 297, 3, 7);
        refused("-1", Made::standing, y -> y.addedUp(0, -1, 0), BAD);
        refused("298", Made::standing, y -> y.addedUp(0, 298, 0), BAD);
        refused("most", Made::standing, y -> y.addedUp(0, MOST, 0), BAD);
        refused("least", Made::standing, y -> y.addedUp(0, LEAST, 0), BAD);
    }

    void whatIs0Or1() {
        refused("what -1", Made::standing, x -> x.addedUp(0, 0, -1), BAD);
        refused("what 2", Made::standing, x -> x.addedUp(0, 0, 2), BAD);
        refused("what most", Made::standing, x -> x.addedUp(0, 0, MOST), BAD);
    }

    void asTheyAreNoneMustBeOther() {
        repaired(Made.street("w2;d10,90,50;"), 150, 0, 0);
        repaired(Made.street("w2;d0,0,0;"), 0, 0, 0);
        repaired(Made.street("w2;d99,99,99;"), 297, 0, 0);
    }

    void onePlaceIs0To99Then() {
        DummyInches x = Made.street("w2;d10,90,50;");
        repaired(x, 239, 1, 1);
        repaired(x, 151, 1, 1);
        repaired(x, 140, 1, 1);
        repaired(x, 139, 1, 2);
        repaired(x, 60, 1, 2);
    }

    void ofSeveralTheLeast() {
        DummyInches x = Made.street("w2;d50,50,50;");
        repaired(x, 151, 1, 1);
        repaired(x, 149, 1, 1);
        repaired(x, 99, 2, 3);
        repaired(x, 200, 2, 3);
        DummyInches y = Made.street("w2;d90,10,20;");
        repaired(y, 130, 1, 2);
        repaired(y, 129, 1, 1);
        repaired(y, 110, 1, 1);
    }

    void theThirdPlaceAlone() {
        DummyInches x = Made.street("w2;d99,99,0;");
        repaired(x, 199, 1, 4);
        repaired(x, 297, 1, 4);
        repaired(x, 197, 1, 1);
    }

    void twoPlacesAre0To99EachThen() {
        DummyInches x = Made.street("w2;d10,90,50;");
        repaired(x, 59, 2, 3);
        repaired(x, 50, 2, 3);
        repaired(x, 49, 2, 6);
        repaired(x, 10, 2, 6);
        repaired(x, 240, 2, 3);
        repaired(x, 248, 2, 3);
        repaired(x, 249, 2, 5);
        repaired(x, 288, 2, 5);
    }

    void allPlacesThen() {
        DummyInches x = Made.street("w2;d10,90,50;");
        repaired(x, 9, 3, 7);
        repaired(x, 0, 3, 7);
        repaired(x, 289, 3, 7);
        repaired(x, 297, 3, 7);
    }

    void thoseThatStayMayBeBelow0() {
        DummyInches x = Made.street("w2;d10,90,50;v0;");
        x.tell(0, 0, 0, -60);
        repaired(x, 90, 0, 0);
        repaired(x, 89, 1, 2);
        repaired(x, 99, 1, 2);
        repaired(x, 100, 1, 4);
        repaired(x, 139, 1, 4);
        repaired(x, 140, 1, 1);
        repaired(x, 0, 1, 2);
    }

    void thoseThatStayMayBeBeyond99() {
        DummyInches x = Made.street("w2;d10,0,0;v0;");
        x.tell(0, 0, 0, 99);
        repaired(x, 109, 0, 0);
        repaired(x, 110, 1, 2);
        repaired(x, 208, 1, 2);
        repaired(x, 209, 2, 6);
        repaired(x, 99, 1, 1);
        repaired(x, 100, 2, 3);
        repaired(x, 108, 2, 3);
    }

    /** -999 and 999 stay, if they can. */
    void atTheEndsOfAllInches() {
        DummyInches x = Made.street("w2;d0,0,9;k0;");
        for (int n = 0; n < 10; n++) {
            x.tell(0, 0, 0, -99);
        }
        x.tell(0, 0, 0, -9);
        for (int n = 0; n < 5; n++) {
            x.tell(0, 0, 2, 99);
        }
        repaired(x, 0, 0, 0);
        repaired(x, 99, 1, 2);
        repaired(x, 100, 2, 5);
        repaired(x, 198, 2, 5);
        repaired(x, 199, 3, 7);
        repaired(x, 297, 3, 7);
    }

    void nothingChanges() {
        foretold("how many", Made::standing, x -> x.addedUp(2, 97, 0), 0);
        foretold("which", Made::standing, x -> x.addedUp(2, 98, 1), 1);
    }
}
