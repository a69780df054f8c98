/** Promise 4: copy. */
public final class Promise04CopyTest extends Promise {
    public static void main(String[] args) throws ReflectiveOperationException {
        new Promise04CopyTest().run();
    }

    private void holds(String what, DummyInches x, int row, int lane, int... items) {
        for (int i = 0; i < items.length; i++) {
            is(what + ", item " + i, Scale.item(x, row, lane, i), items[i]);
        }
        is(what + ", the end", Scale.item(x, row, lane, items.length), PLACE);
    }

    private static DummyInches scaled() {
        DummyInches x = new DummyInches();
        Scale.stand(x);
        Made.lay(x, 0, 0, 1, 2, 3, 4, 5, 6);
        Made.lay(x, 1, 0, 11, 12, 13, 14);
        return x;
    }

    void rowsAre0To7() {
        DummyInches x = new DummyInches();
        x.row(0, 0, 1);
        x.row(7, 0, 1);
        is("0 to 7", x.copy(0, 0, 7, 0, 1), 1);
        is("7 to 0", x.copy(7, 0, 0, 0, 1), 1);
        refused("a -1", Made::standing, y -> y.copy(-1, 0, 0, 0, 1), BAD);
        refused("a 8", Made::standing, y -> y.copy(8, 0, 0, 0, 1), BAD);
        refused("b -1", Made::standing, y -> y.copy(0, 0, -1, 0, 1), BAD);
        refused("b 8", Made::standing, y -> y.copy(0, 0, 8, 0, 1), BAD);
        refused("both", Made::standing, y -> y.copy(MOST, 0, LEAST, 0, 1), BAD);
    }

    void missingRowIsNull() {
        refused("a", Made::standing, y -> y.copy(4, 0, 0, 0, 1), NULL);
        refused("b", Made::standing, y -> y.copy(0, 0, 4, 0, 1), NULL);
        refused("both", Made::standing, y -> y.copy(4, 0, 5, 0, 1), NULL);
        refused("one twice", Made::standing, y -> y.copy(4, 0, 4, 0, 0), NULL);
        refused("none of a missing one", Made::bare, y -> y.copy(4, 0, 0, 0, 0), NULL);
    }

    void rowsOfTwoLanesAreStore() {
        refused("bytes to shorts", Made::standing, y -> y.copy(0, 0, 1, 0, 1), STORE);
        refused("shorts to bytes", Made::standing, y -> y.copy(1, 0, 0, 0, 1), STORE);
        refused("shorts to ints", Made::standing, y -> y.copy(1, 0, 2, 0, 1), STORE);
        refused("ints to shorts", Made::standing, y -> y.copy(2, 0, 1, 0, 1), STORE);
        refused("ints to bytes", Made::standing, y -> y.copy(2, 0, 0, 0, 1), STORE);
        refused("bytes to ints", Made::standing, y -> y.copy(0, 0, 2, 0, 1), STORE);
        refused("none of them", Made::standing, y -> y.copy(0, 0, 2, 0, 0), STORE);
    }

    void placesAreThoseOfBothRows() {
        refused("i -1", Made::standing, y -> y.copy(0, -1, 0, 0, 1), PLACE);
        refused("j -1", Made::standing, y -> y.copy(0, 0, 0, -1, 1), PLACE);
        refused("n -1", Made::standing, y -> y.copy(0, 1, 0, 1, -1), PLACE);
        refused("i beyond a", Made::standing, y -> y.copy(0, 6, 0, 0, 1), PLACE);
        refused("j beyond b", Made::standing, y -> y.copy(0, 0, 0, 6, 1), PLACE);
        refused("n beyond a", Made::standing, y -> y.copy(0, 1, 0, 0, 6), PLACE);
        refused("n beyond b", Made::standing, y -> y.copy(0, 0, 0, 1, 6), PLACE);
        refused("from an empty one", Made::standing, y -> y.copy(3, 0, 0, 0, 1), PLACE);
        refused("to an empty one", Made::standing, y -> y.copy(0, 0, 3, 0, 1), PLACE);
    }

    void placesDoNotWrapAround() {
        refused("i most", Made::standing, y -> y.copy(0, MOST, 0, 0, 1), PLACE);
        refused("j most", Made::standing, y -> y.copy(0, 0, 0, MOST, 1), PLACE);
        refused("n most", Made::standing, y -> y.copy(0, 1, 0, 1, MOST), PLACE);
        refused("all most", Made::standing, y -> y.copy(0, MOST, 0, MOST, MOST), PLACE);
        refused("i, n least", Made::standing, y -> y.copy(0, LEAST, 0, 0, LEAST), PLACE);
        refused("j, n least", Made::standing, y -> y.copy(0, 0, 0, LEAST, LEAST), PLACE);
        refused("n least", Made::standing, y -> y.copy(0, 0, 0, 0, LEAST), PLACE);
    }

    void noneAtAnEndIsTaken() {
        DummyInches x = scaled();
        is("none of none", x.copy(0, 0, 1, 0, 0), 0);
        is("none at both ends", x.copy(0, 6, 1, 4, 0), 0);
        x.row(3, 0, 0);
        is("none of an empty one", x.copy(3, 0, 0, 6, 0), 0);
        is("none to an empty one", x.copy(0, 6, 3, 0, 0), 0);
        holds("they stay", x, 1, 0, 11, 12, 13, 14);
        refused("none beyond the end of a", Made::standing, y -> y.copy(0, 7, 0, 0, 0), PLACE);
        refused("none beyond the end of b", Made::standing, y -> y.copy(0, 0, 0, 7, 0), PLACE);
        refused("none of an empty one at 1", Made::standing, y -> y.copy(3, 1, 0, 0, 0), PLACE);
        refused("none at -1", Made::standing, y -> y.copy(0, -1, 0, 0, 0), PLACE);
    }

    void badIsAheadOfNullAheadOfStoreAheadOfPlace() {
        refused("BAD, missing", Made::standing, y -> y.copy(4, 0, 8, 0, 1), BAD);
        refused("BAD, missing, the other way", Made::standing, y -> y.copy(8, 0, 4, 0, 1), BAD);
        refused("BAD, no place", Made::standing, y -> y.copy(0, -1, 8, 0, 1), BAD);
        refused("missing, no place", Made::standing, y -> y.copy(0, -1, 4, 0, 1), NULL);
        refused("missing, n -1", Made::standing, y -> y.copy(4, 0, 0, 0, -1), NULL);
        refused("two lanes, no place", Made::standing, y -> y.copy(0, 9, 1, 0, 1), STORE);
        refused("two lanes, n -1", Made::standing, y -> y.copy(0, 0, 1, 0, -1), STORE);
    }

    void someComeToAnotherRow() {
        DummyInches x = scaled();
        is("two", x.copy(0, 3, 1, 1, 2), 2);
        holds("b", x, 1, 0, 11, 4, 5, 14);
        holds("a", x, 0, 0, 1, 2, 3, 4, 5, 6);
    }

    void upToBothEnds() {
        DummyInches x = scaled();
        is("the last of a, all of b", x.copy(0, 2, 1, 0, 4), 4);
        holds("b", x, 1, 0, 3, 4, 5, 6);
        is("the last of a, the last of b", x.copy(0, 5, 1, 3, 1), 1);
        is("all of b, the last of a", x.copy(1, 0, 0, 2, 4), 4);
        holds("a", x, 0, 0, 1, 2, 3, 4, 5, 6);
    }

    void withinARowTheyComeAsTheyWereAhead() {
        DummyInches x = scaled();
        is("on by one", x.copy(0, 0, 0, 1, 5), 5);
        holds("on", x, 0, 0, 1, 1, 2, 3, 4, 5);
        is("back by one", x.copy(0, 1, 0, 0, 5), 5);
        holds("back", x, 0, 0, 1, 2, 3, 4, 5, 5);
        is("onto itself", x.copy(0, 0, 0, 0, 6), 6);
        holds("itself", x, 0, 0, 1, 2, 3, 4, 5, 5);
    }

    void allLanesAreCopied() {
        DummyInches x = new DummyInches();
        Scale.stand(x);
        for (int lane = 0; lane <= 2; lane++) {
            Made.lay(x, 0, lane, 21, 22);
            x.row(1, lane, 2);
            is("lane " + lane, x.copy(0, 0, 1, 0, 2), 2);
            holds("lane " + lane, x, 1, lane, 21, 22);
        }
    }

    void allFortyAreCopied() {
        DummyInches x = new DummyInches();
        Scale.stand(x);
        x.row(0, 2, 40);
        x.row(1, 2, 40);
        x.set(0, 0, 5);
        x.set(0, 39, 6);
        is("40", x.copy(0, 0, 1, 0, 40), 40);
        is("41", x.copy(0, 0, 1, 0, 41), PLACE);
        is("first", Scale.item(x, 1, 2, 0), 5);
        is("last", Scale.item(x, 1, 2, 39), 6);
    }

    void statusIs0BehindIt() {
        DummyInches x = Made.standing();
        x.drop(7);
        x.copy(0, 0, 0, 1, 0);
        is("status", x.status(), 0);
    }
}
