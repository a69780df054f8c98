/** Promise 18: liars. */
public final class Promise18LiarsTest extends Promise {
    public static void main(String[] args) throws ReflectiveOperationException {
        new Promise18LiarsTest().run();
    }

    /** As standing(), row 5 with what dummy 0 and dummy 1 pinch by if the gossip, if the cook lied. */
    private static DummyInches pinched() {
        DummyInches x = Made.standing();
        Made.lay(x, 5, 1, 0, 0, -3, 0, -10, 0);
        return x;
    }

    private void fits(DummyInches x, int dummy, int howMany, int which, int... pinches) {
        Made.lay(x, 0, 2, pinches);
        is("how many", x.liars(dummy, 0, 0, 0), howMany);
        is("which", x.liars(dummy, 0, 0, 1), which);
    }

    void dummiesAreThoseOfTheStreet() {
        is("last", pinched().liars(2, 5, 0, 1), NONE);
        refused("dummy -1", Promise18LiarsTest::pinched, x -> x.liars(-1, 5, 0, 0), BAD);
        refused("dummy 3", Promise18LiarsTest::pinched, x -> x.liars(3, 5, 0, 0), BAD);
        refused("dummy most", Promise18LiarsTest::pinched, x -> x.liars(MOST, 5, 0, 0), BAD);
        refused("no dummies", () -> Made.street("w2;v1;"), x -> x.liars(0, 0, 0, 0), BAD);
        refused("no street", Made::bare, x -> x.liars(0, 0, 0, 0), BAD);
    }

    void rowsAre0To7() {
        DummyInches x = Made.street("w2;d1,1,1;");
        for (int row = 0; row <= 7; row++) {
            x.row(row, 0, 3);
            is("row " + row, x.liars(0, row, 0, 0), 1);
        }
        refused("row -1", Promise18LiarsTest::pinched, y -> y.liars(0, -1, 0, 0), BAD);
        refused("row 8", Promise18LiarsTest::pinched, y -> y.liars(0, 8, 0, 0), BAD);
        refused("row most", Promise18LiarsTest::pinched, y -> y.liars(0, MOST, 0, 0), BAD);
    }

    void whatIs0Or1() {
        refused("what -1", Promise18LiarsTest::pinched, x -> x.liars(0, 5, 0, -1), BAD);
        refused("what 2", Promise18LiarsTest::pinched, x -> x.liars(0, 5, 0, 2), BAD);
        refused("what most", Promise18LiarsTest::pinched, x -> x.liars(0, 5, 0, MOST), BAD);
    }

    void missingRowIsNull() {
        refused("row 4", Promise18LiarsTest::pinched, x -> x.liars(0, 4, 0, 0), NULL);
    }

    void threeItemsFromIOn() {
        foretoldByRow("first three", Promise18LiarsTest::pinched, x -> x.liars(0, 5, 0, 1), 8);
        foretoldByRow("last three", Promise18LiarsTest::pinched, x -> x.liars(1, 5, 3, 1), 2);
        refused("place -1", Promise18LiarsTest::pinched, x -> x.liars(0, 5, -1, 0), PLACE);
        refused("place 4", Promise18LiarsTest::pinched, x -> x.liars(0, 5, 4, 0), PLACE);
        refused("place 6", Promise18LiarsTest::pinched, x -> x.liars(0, 5, 6, 0), PLACE);
        refused("place most", Promise18LiarsTest::pinched, x -> x.liars(0, 5, MOST, 0), PLACE);
        refused("place least", Promise18LiarsTest::pinched, x -> x.liars(0, 5, LEAST, 0), PLACE);
        refused("no items", Promise18LiarsTest::pinched, x -> x.liars(0, 3, 0, 0), PLACE);
    }

    void threeItemsAreJustEnough() {
        DummyInches x = Made.street("w2;d1,1,1;");
        x.row(0, 0, 3);
        is("three", x.liars(0, 0, 0, 0), 1);
        is("one on", x.liars(0, 0, 1, 0), PLACE);
        x.row(0, 0, 2);
        is("two", x.liars(0, 0, 0, 0), PLACE);
        x.row(0, 0, 40);
        is("the last three of 40", x.liars(0, 0, 37, 0), 1);
        is("one on", x.liars(0, 0, 38, 0), PLACE);
    }

    void badIsAheadOfNullAheadOfPlace() {
        refused("dummy, missing", Promise18LiarsTest::pinched, x -> x.liars(3, 4, 0, 0), BAD);
        refused("what, missing", Promise18LiarsTest::pinched, x -> x.liars(0, 4, 0, 2), BAD);
        refused("what, place", Promise18LiarsTest::pinched, x -> x.liars(0, 5, -1, 2), BAD);
        refused("missing, place", Promise18LiarsTest::pinched, x -> x.liars(0, 4, -1, 0), NULL);
    }

    void noTellingFitsEverySet() {
        fits(Made.street("w2;d1,1,1;"), 0, 1, 0, 0, 0, 0);
        fits(Made.street("w2;d1,1,1;k1;"), 0, 2, 0, 0, 0, 0);
        fits(Made.street(Made.ALL), 0, 32, 0, 0, 0, 0);
    }

    void noSetFits() {
        fits(Made.street("w2;d1,1,1;"), 0, 0, NONE, 1, 0, 0);
        fits(Made.street(Made.ALL), 0, 0, NONE, 0, -1, 0);
        fits(Made.street(Made.ALL), 0, 0, NONE, 0, 0, 1);
        foretoldByRow("how many", Promise18LiarsTest::pinched, x -> x.liars(2, 5, 0, 0), 0);
        foretoldByRow("which", Promise18LiarsTest::pinched, x -> x.liars(2, 5, 0, 1), NONE);
    }

    void thoseAlonePadAsTold() {
        DummyInches x = Made.street("w2;d50,50,50;v0;k0;r0;");
        x.tell(1, 0, 0, 6);
        x.tell(2, 0, 0, 5);
        x.tell(2, 0, 1, 2);
        fits(x, 0, 2, 0, 0, 0, 0);
        fits(x, 0, 2, 2, -6, 0, 0);
        fits(x, 0, 2, 4, 10, 4, 0);
        fits(x, 0, 2, 6, 4, 4, 0);
        fits(x, 0, 0, NONE, 10, 0, 0);
        fits(x, 0, 0, NONE, 0, 4, 0);
    }

    void eachKindLiesInItsWay() {
        DummyInches x = Made.street(Made.ALL);
        for (int mouth = 0; mouth < 5; mouth++) {
            x.tell(mouth, 0, 0, 7);
            x.tell(mouth, 0, 1, -7);
        }
        fits(x, 0, 2, 0, 0, 0, 0);
        fits(x, 0, 2, 2, -7, 0, 0);
        fits(x, 0, 4, 4, 14, -14, 0);
        fits(x, 0, 2, 8, 4, -4, 0);
        fits(x, 0, 2, 16, 10, -10, 0);
        fits(x, 0, 2, 30, 21, -28, 0);
    }

    void theOneWithFewestMouths() {
        DummyInches x = Made.street("w2;d50,50,50;r0;r0;r0;r0;r0;");
        x.tell(0, 0, 0, 1);
        x.tell(1, 0, 0, 1);
        x.tell(2, 0, 0, 2);
        x.tell(3, 0, 0, 2);
        x.tell(4, 0, 0, 6);
        fits(x, 0, 3, 4, 4, 0, 0);
        fits(x, 0, 1, 31, 24, 0, 0);
        fits(x, 0, 1, 0, 0, 0, 0);
    }

    void ofSeveralTheLeast() {
        DummyInches x = Made.street("w2;d50,50,50;r0;r0;r0;r0;r0;");
        for (int mouth = 0; mouth < 5; mouth++) {
            x.tell(mouth, 0, 0, 1);
        }
        fits(x, 0, 5, 1, 2, 0, 0);
        fits(x, 0, 10, 3, 4, 0, 0);
        fits(x, 0, 10, 7, 6, 0, 0);
        fits(x, 0, 5, 15, 8, 0, 0);
        fits(x, 0, 1, 31, 10, 0, 0);
    }

    void thereAreNoYearsAndNoSwaps() {
        DummyInches x = Made.street("w2;d50,50,50;d9,9,9;k0;");
        x.tell(0, 0, 0, 6);
        x.year();
        x.swap(0, 1);
        x.year();
        fits(x, 0, 1, 1, -6, 0, 0);
        fits(x, 0, 1, 0, 0, 0, 0);
        fits(x, 1, 2, 0, 0, 0, 0);
    }

    void theTellingsOfTheLogAlone() {
        DummyInches x = Made.street("w2;d50,50,50;k0;");
        x.tell(0, 0, 0, 6);
        x.close();
        fits(x, 0, 2, 0, 0, 0, 0);
        fits(x, 0, 0, NONE, -6, 0, 0);
        x.tell(0, 0, 2, 1);
        fits(x, 0, 1, 1, 0, 0, -1);
    }

    void anotherDummysTellingsDoNotMatter() {
        DummyInches x = Made.street("w2;d50,50,50;d9,9,9;k0;");
        x.tell(0, 0, 0, 6);
        fits(x, 1, 2, 0, 0, 0, 0);
    }

    void tellingsOfOneMouthAreAdded() {
        DummyInches x = Made.street("w2;d0,0,0;r0;");
        for (int n = 0; n < 10; n++) {
            x.tell(0, 0, 0, 99);
        }
        x.tell(0, 0, 0, 9);
        fits(x, 0, 1, 1, 1998, 0, 0);
        fits(x, 0, 1, 0, 0, 0, 0);
    }

    void allLanesTell() {
        DummyInches x = Made.street("w2;d0,0,0;r0;");
        x.tell(0, 0, 0, 50);
        for (int lane = 0; lane <= 2; lane++) {
            Made.lay(x, 0, lane, 100, 0, 0);
            is("lane " + lane, x.liars(0, 0, 0, 1), 1);
        }
    }
}
