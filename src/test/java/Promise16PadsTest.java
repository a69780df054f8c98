/** Promise 16: pads, with the kinds of part 2. */
public final class Promise16PadsTest extends Promise {
    private static final int[] TOLD = {-99, -98, -3, -2, -1, 0, 1, 2, 3, 98, 99};

    public static void main(String[] args) throws ReflectiveOperationException {
        new Promise16PadsTest().run();
    }

    private void pads(int mouth, int... padded) {
        DummyInches x = Made.street(Made.ALL);
        for (int k = 0; k < TOLD.length; k++) {
            is("t " + TOLD[k], x.pads(mouth, TOLD[k]), padded[k]);
        }
    }

    void aValetPadsT() {
        pads(0, -99, -98, -3, -2, -1, 0, 1, 2, 3, 98, 99);
    }

    void aCookPadsTwiceTIfAbove0() {
        pads(1, -99, -98, -3, -2, -1, 0, 2, 4, 6, 196, 198);
    }

    void aRivalPads0LessT() {
        pads(2, 99, 98, 3, 2, 1, 0, -1, -2, -3, -98, -99);
    }

    void aGossipPadsHalfCutTowards0() {
        pads(3, -49, -49, -1, -1, 0, 0, 0, 1, 1, 49, 49);
    }

    void aSpyPads0LessHalfCutTowards0() {
        pads(4, 49, 49, 1, 1, 0, 0, 0, -1, -1, -49, -49);
    }

    void tIsMinus99To99() {
        for (int k = 0; k < 5; k++) {
            int mouth = k;
            refused("t 100", Made::standing, x -> x.pads(mouth, 100), BAD);
            refused("t -100", Made::standing, x -> x.pads(mouth, -100), BAD);
        }
        refused("t most", Made::standing, x -> x.pads(0, MOST), BAD);
        refused("t least", Made::standing, x -> x.pads(0, LEAST), BAD);
    }

    void mouthsAreThoseOfTheStreet() {
        refused("mouth -1", Made::standing, x -> x.pads(-1, 0), BAD);
        refused("mouth 5", Made::standing, x -> x.pads(5, 0), BAD);
        refused("mouth most", Made::standing, x -> x.pads(MOST, 0), BAD);
        refused("mouth least", Made::standing, x -> x.pads(LEAST, 0), BAD);
        refused("second of one", () -> Made.street("w2;v1;"), x -> x.pads(1, 0), BAD);
        refused("no mouths", () -> Made.street("w2;d1,2,3;"), x -> x.pads(0, 0), BAD);
        refused("no street", Made::bare, x -> x.pads(0, 0), BAD);
    }

    void aFullLogDoesNotMatter() {
        is("told no more", Made.fullLog().pads(1, 99), 198);
    }

    void nothingChanges() {
        foretold("pads", Made::standing, x -> x.pads(1, 7), 14);
    }
}
