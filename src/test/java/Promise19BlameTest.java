/** Promise 19: blame. */
public final class Promise19BlameTest extends Promise {
    public static void main(String[] args) throws ReflectiveOperationException {
        new Promise19BlameTest().run();
    }

    /** As standing(), row 5 with what dummy 0 pinches by if the gossip lied. */
    private static DummyInches pinched() {
        DummyInches x = Made.standing();
        Made.lay(x, 5, 1, 7, 0, 0, -3);
        return x;
    }

    private void blamed(DummyInches x, int mouth, int above, int below) {
        is("above, mouth " + mouth, x.blame(0, mouth, 0, 0, 0), above);
        is("below, mouth " + mouth, x.blame(0, mouth, 0, 0, 1), below);
    }

    void dummiesAreThoseOfTheStreet() {
        refused("dummy -1", Promise19BlameTest::pinched, x -> x.blame(-1, 0, 5, 1, 0), BAD);
        refused("dummy 3", Promise19BlameTest::pinched, x -> x.blame(3, 0, 5, 1, 0), BAD);
        refused("no dummies", () -> Made.street("w2;v1;"), x -> x.blame(0, 0, 0, 0, 0), BAD);
        refused("no street", Made::bare, x -> x.blame(0, 0, 0, 0, 0), BAD);
    }

    void mouthsAreThoseOfTheStreet() {
        is("first", pinched().blame(0, 0, 5, 1, 1), 2);
        is("last", pinched().blame(0, 4, 5, 1, 1), 2);
        refused("mouth -1", Promise19BlameTest::pinched, x -> x.blame(0, -1, 5, 1, 0), BAD);
        refused("mouth 5", Promise19BlameTest::pinched, x -> x.blame(0, 5, 5, 1, 0), BAD);
        refused("mouth most", Promise19BlameTest::pinched, x -> x.blame(0, MOST, 5, 1, 0), BAD);
        refused("no mouths", () -> Made.street("w2;d1,1,1;"), x -> x.blame(0, 0, 0, 0, 0), BAD);
    }

    void rowsAre0To7() {
        DummyInches x = Made.street("w2;d1,1,1;v1;");
        x.row(0, 0, 3);
        x.row(7, 0, 3);
        is("row 0", x.blame(0, 0, 0, 0, 1), 2);
        is("row 7", x.blame(0, 0, 7, 0, 1), 2);
        refused("row -1", Promise19BlameTest::pinched, y -> y.blame(0, 0, -1, 1, 0), BAD);
        refused("row 8", Promise19BlameTest::pinched, y -> y.blame(0, 0, 8, 1, 0), BAD);
    }

    void whatIs0Or1() {
        refused("what -1", Promise19BlameTest::pinched, x -> x.blame(0, 0, 5, 1, -1), BAD);
        refused("what 2", Promise19BlameTest::pinched, x -> x.blame(0, 0, 5, 1, 2), BAD);
        refused("what most", Promise19BlameTest::pinched, x -> x.blame(0, 0, 5, 1, MOST), BAD);
    }

    void missingRowIsNull() {
        refused("row 4", Promise19BlameTest::pinched, x -> x.blame(0, 0, 4, 0, 0), NULL);
    }

    void threeItemsFromIOn() {
        foretoldByRow("the last three", Promise19BlameTest::pinched, x -> x.blame(0, 3, 5, 1, 0), 1);
        refused("place -1", Promise19BlameTest::pinched, x -> x.blame(0, 0, 5, -1, 0), PLACE);
        refused("place 2", Promise19BlameTest::pinched, x -> x.blame(0, 0, 5, 2, 0), PLACE);
        refused("place most", Promise19BlameTest::pinched, x -> x.blame(0, 0, 5, MOST, 0), PLACE);
        refused("no items", Promise19BlameTest::pinched, x -> x.blame(0, 0, 3, 0, 0), PLACE);
    }

    void badIsAheadOfNullAheadOfPlace() {
        refused("dummy, missing", Promise19BlameTest::pinched, x -> x.blame(3, 0, 4, 0, 0), BAD);
        refused("mouth, missing", Promise19BlameTest::pinched, x -> x.blame(0, 5, 4, 0, 0), BAD);
        refused("what, missing", Promise19BlameTest::pinched, x -> x.blame(0, 0, 4, 0, 2), BAD);
        refused("mouth, place", Promise19BlameTest::pinched, x -> x.blame(0, 5, 5, -1, 0), BAD);
        refused("missing, place", Promise19BlameTest::pinched, x -> x.blame(0, 0, 4, -1, 0), NULL);
    }

    void noSetsAreNone() {
        foretoldByRow("above", Promise19BlameTest::pinched, x -> x.blame(2, 0, 5, 1, 0), NONE);
        foretoldByRow("below", Promise19BlameTest::pinched, x -> x.blame(2, 0, 5, 1, 1), NONE);
    }

    void inNoSetIs0By1() {
        DummyInches x = Made.street("w2;d0,0,0;r0;r0;");
        x.tell(0, 0, 0, 1);
        x.row(0, 0, 3);
        blamed(x, 0, 0, 1);
        blamed(x, 1, 1, 2);
    }

    void inAllSetsIs1By1() {
        DummyInches x = Made.street("w2;d0,0,0;r0;r0;");
        x.tell(0, 0, 0, 1);
        Made.lay(x, 0, 0, 2, 0, 0);
        blamed(x, 0, 1, 1);
        blamed(x, 1, 1, 2);
    }

    void in16Of32SetsIs1By2() {
        DummyInches x = Made.street(Made.ALL);
        x.row(0, 0, 3);
        for (int mouth = 0; mouth < 5; mouth++) {
            blamed(x, mouth, 1, 2);
        }
    }

    /** Five that lie alike: of the sets of n of them each is in n by 5. */
    void lowestTerms() {
        DummyInches x = Made.street("w2;d50,50,50;r0;r0;r0;r0;r0;");
        for (int mouth = 0; mouth < 5; mouth++) {
            x.tell(mouth, 0, 0, 1);
        }
        for (int n = 0; n <= 5; n++) {
            Made.lay(x, 0, 0, 2 * n, 0, 0);
            for (int mouth = 0; mouth < 5; mouth++) {
                blamed(x, mouth, n == 5 ? 1 : n, n == 0 || n == 5 ? 1 : 5);
            }
        }
        DummyInches y = Made.street("w2;d50,50,50;r0;r0;r0;v0;");
        for (int mouth = 0; mouth < 3; mouth++) {
            y.tell(mouth, 0, 0, 1);
        }
        Made.lay(y, 0, 0, 4, 0, 0);
        blamed(y, 0, 2, 3);
        blamed(y, 3, 1, 2);
        Made.lay(y, 0, 0, 2, 0, 0);
        blamed(y, 2, 1, 3);
    }
}
