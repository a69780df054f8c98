/** Promise 23: lent. */
public final class Promise23LentTest extends Promise {
    public static void main(String[] args) throws ReflectiveOperationException {
        new Promise23LentTest().run();
    }

    private void lent(DummyInches x, int k, int places, int howMuch) {
        is("places", x.lent(k, 0), places);
        is("how much", x.lent(k, 1), howMuch);
    }

    private static DummyInches other(String text) {
        DummyInches x = Made.standing();
        x.street();
        Made.read(x, text);
        return x;
    }

    void noStreetIsStateAheadOfBad() {
        refused("no street", Made::bare, x -> x.lent(0, 0), STATE);
        refused("k 2", Made::bare, x -> x.lent(2, 0), STATE);
        refused("k -1", Made::bare, x -> x.lent(-1, 0), STATE);
        refused("what 2", Made::bare, x -> x.lent(0, 2), STATE);
    }

    void imagesAre0And1() {
        DummyInches x = Made.standing();
        x.image(1);
        lent(x, 1, 0, 0);
        refused("k -1", Made::standing, y -> y.lent(-1, 0), BAD);
        refused("k 2", Made::standing, y -> y.lent(2, 0), BAD);
        refused("k most", Made::standing, y -> y.lent(MOST, 0), BAD);
        refused("k least", Made::standing, y -> y.lent(LEAST, 0), BAD);
    }

    void whatIs0Or1() {
        refused("what -1", Made::standing, y -> y.lent(0, -1), BAD);
        refused("what 2", Made::standing, y -> y.lent(0, 2), BAD);
        refused("what most", Made::standing, y -> y.lent(0, MOST), BAD);
    }

    void noneKeptIsState() {
        refused("image 1", Made::standing, y -> y.lent(1, 0), STATE);
        refused("image 1, how much", Made::standing, y -> y.lent(1, 1), STATE);
        refused("image 0", () -> Made.street(Made.ALL), y -> y.lent(0, 0), STATE);
    }

    void moreOrFewerDummiesAreState() {
        refused("none", () -> other("w2;"), y -> y.lent(0, 0), STATE);
        refused("two", () -> other("w2;d1,1,1;d1,1,1;"), y -> y.lent(0, 0), STATE);
        refused("four", () -> other("w2;d1,1,1;d1,1,1;d1,1,1;d1,1,1;"), y -> y.lent(0, 1), STATE);
        is("as many", other("w2;d47,30,20;d41,35,22;d90,80,69;").lent(0, 1), 1);
    }

    void badIsAheadOfNoneKeptAndOfOtherDummies() {
        refused("none kept", Made::standing, y -> y.lent(1, 2), BAD);
        refused("fewer", () -> other("w2;"), y -> y.lent(0, 2), BAD);
    }

    void alikeIs0() {
        DummyInches x = Made.street(Made.ALL);
        x.image(0);
        lent(x, 0, 0, 0);
        x.close();
        lent(x, 0, 0, 0);
        DummyInches y = Made.street("w2;");
        y.image(0);
        lent(y, 0, 0, 0);
    }

    void eachPlaceIsABit() {
        for (int k = 0; k < 12; k++) {
            DummyInches x = Made.street("w2;d0,0,0;d0,0,0;d0,0,0;d0,0,0;v0;");
            x.image(1);
            x.tell(0, k / 3, k % 3, 7);
            lent(x, 1, 1 << k, 7);
            x.tell(0, k / 3, k % 3, -20);
            lent(x, 1, 1 << k, 13);
        }
    }

    void allPlaces() {
        DummyInches x = Made.street("w2;d0,0,0;d0,0,0;d0,0,0;d0,0,0;v0;");
        x.image(0);
        for (int k = 0; k < 12; k++) {
            x.tell(0, k / 3, k % 3, k % 2 == 0 ? 99 : -99);
        }
        lent(x, 0, 4095, 12 * 99);
    }

    void inchesAlone() {
        DummyInches x = Made.street("w2;d5,5,5;g0;");
        x.image(0);
        x.tell(0, 0, 0, 1);
        lent(x, 0, 0, 0);
        x.tell(0, 0, 0, 4);
        x.close();
        lent(x, 0, 1, 2);
    }

    void anotherTextMayBeAlike() {
        DummyInches x = Made.street("w2;d5,5,5;g0;");
        x.image(0);
        Made.read(x, "w9;d5,5,6;v1;v2;");
        lent(x, 0, 4, 1);
    }

    void nothingChanges() {
        foretold("places", Made::standing, x -> x.lent(0, 0), 7 | 1 << 4 | 7 << 6);
        foretold("how much", Made::standing, x -> x.lent(0, 1), 43 + 50 + 48 + 15 + 43 + 50 + 50);
    }
}
