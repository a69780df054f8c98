/** Promise 3: set. */
public final class Promise03SetTest extends Promise {
    public static void main(String[] args) throws ReflectiveOperationException {
        new Promise03SetTest().run();
    }

    void rowsAre0To7() {
        DummyInches x = new DummyInches();
        for (int row = 0; row <= 7; row++) {
            x.row(row, 0, 1);
            is("row " + row, x.set(row, 0, 9), 9);
        }
        refused("row -1", Made::standing, y -> y.set(-1, 0, 1), BAD);
        refused("row 8", Made::standing, y -> y.set(8, 0, 1), BAD);
        refused("row least", Made::standing, y -> y.set(LEAST, 0, 1), BAD);
        refused("row most", Made::standing, y -> y.set(MOST, 0, 1), BAD);
    }

    void missingRowIsNull() {
        refused("row 4", Made::standing, y -> y.set(4, 0, 1), NULL);
        refused("row 7, no street", Made::bare, y -> y.set(7, 0, 1), NULL);
    }

    void placesAreThoseOfTheRow() {
        DummyInches x = Made.standing();
        is("first", x.set(0, 0, 9), 9);
        is("last", x.set(0, 5, 9), 9);
        refused("place -1", Made::standing, y -> y.set(0, -1, 9), PLACE);
        refused("place 6", Made::standing, y -> y.set(0, 6, 9), PLACE);
        refused("place least", Made::standing, y -> y.set(0, LEAST, 9), PLACE);
        refused("place most", Made::standing, y -> y.set(0, MOST, 9), PLACE);
    }

    void fullRowHas40Places() {
        DummyInches x = new DummyInches();
        x.row(0, 0, 40);
        is("place 39", x.set(0, 39, 9), 9);
        is("place 40", x.set(0, 40, 9), PLACE);
    }

    void emptyRowHasNoPlace() {
        refused("place 0", Made::standing, y -> y.set(3, 0, 9), PLACE);
        refused("place -1", Made::standing, y -> y.set(3, -1, 9), PLACE);
    }

    void badIsAheadOfNullAheadOfPlace() {
        refused("BAD, and no place", Made::standing, y -> y.set(8, -1, 9), BAD);
        refused("missing, and no place", Made::standing, y -> y.set(4, -1, 9), NULL);
        refused("missing, and place 40", Made::standing, y -> y.set(4, 40, 9), NULL);
    }

    private void isKept(int lane, int v, int want) {
        DummyInches x = new DummyInches();
        x.row(0, lane, 2);
        is("lane " + lane + " of " + v, x.set(0, 1, v), want);
    }

    void bytesKeepTheLowest8Bits() {
        isKept(0, 0, 0);
        isKept(0, 127, 127);
        isKept(0, 128, -128);
        isKept(0, 255, -1);
        isKept(0, 256, 0);
        isKept(0, -1, -1);
        isKept(0, -128, -128);
        isKept(0, -129, 127);
        isKept(0, MOST, -1);
        isKept(0, LEAST, 0);
    }

    void shortsKeepTheLowest16Bits() {
        isKept(1, 128, 128);
        isKept(1, 32767, 32767);
        isKept(1, 32768, -32768);
        isKept(1, 65535, -1);
        isKept(1, 65536, 0);
        isKept(1, -32768, -32768);
        isKept(1, -32769, 32767);
        isKept(1, MOST, -1);
        isKept(1, LEAST, 0);
    }

    void intsKeepAll32Bits() {
        isKept(2, 65536, 65536);
        isKept(2, -65537, -65537);
        isKept(2, MOST, MOST);
        isKept(2, LEAST, LEAST);
    }

    void whatIsAnsweredIsWhatIsThere() {
        DummyInches x = new DummyInches();
        Scale.stand(x);
        for (int lane = 0; lane <= 2; lane++) {
            x.row(0, lane, 3);
            x.set(0, 1, 31);
            is("lane " + lane, Scale.item(x, 0, lane, 1), 31);
            is("the one ahead of it", Scale.item(x, 0, lane, 0), 0);
            is("the one behind it", Scale.item(x, 0, lane, 2), 0);
        }
        x.row(0, 0, 1);
        x.set(0, 0, 256 + 21);
        is("byte, cut", Scale.item(x, 0, 0, 0), 21);
        x.row(0, 1, 1);
        x.set(0, 0, 65536 + 21);
        is("short, cut", Scale.item(x, 0, 1, 0), 21);
        x.row(0, 2, 1);
        x.set(0, 0, 65536 + 21);
        is("int, not cut", Scale.item(x, 0, 2, 0), NONE);
    }

    void whatIsBelow0IsThereToo() {
        DummyInches x = Made.street("w2;d0,0,0;k0;");
        x.tell(0, 0, 0, 1);
        x.row(0, 0, 3);
        x.set(0, 0, 255);
        is("the cook pinches by -1", x.liars(0, 0, 0, 1), 1);
        x.row(0, 1, 3);
        x.set(0, 0, 65535);
        is("the cook pinches by -1", x.liars(0, 0, 0, 1), 1);
    }

    void statusIs0BehindIt() {
        DummyInches x = Made.standing();
        x.drop(7);
        x.set(0, 0, 0);
        is("status", x.status(), 0);
    }
}
