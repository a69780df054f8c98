/** Promise 20: right. */
public final class Promise20RightTest extends Promise {
    public static void main(String[] args) throws ReflectiveOperationException {
        new Promise20RightTest().run();
    }

    private void right(DummyInches x, int dummy, int... want) {
        for (int what = 0; what <= 6; what++) {
            is("what " + what, x.right(dummy, what), want[what]);
        }
    }

    /** Dummy 0 pinches by this at its first place, and nowhere else: it has what dummy 1 had. */
    private static DummyInches pinching(int by, String mouths) {
        int made = Math.max(by, 0);
        DummyInches x = Made.street("w2;d" + made + ",0,0;d" + (made - by) + ",0,0;" + mouths);
        x.swap(0, 1);
        return x;
    }

    private void tells(String mouths, int pinch, int bribe, int who, int t) {
        DummyInches x = pinching(pinch, mouths);
        is("it pinches", x.dummy(0, 0, 3), pinch);
        right(x, 0, bribe, who, NONE, NONE, t, NONE, NONE);
    }

    private void nobody(DummyInches x, int dummy) {
        right(x, dummy, NONE, NONE, NONE, NONE, NONE, NONE, NONE);
    }

    void dummiesAreThoseOfTheStreet() {
        is("last", Made.street(Made.ALL).right(2, 0), 0);
        refused("dummy -1", Made::standing, x -> x.right(-1, 0), BAD);
        refused("dummy 3", Made::standing, x -> x.right(3, 0), BAD);
        refused("dummy most", Made::standing, x -> x.right(MOST, 0), BAD);
        refused("no dummies", () -> Made.street("w2;v1;"), x -> x.right(0, 0), BAD);
        refused("no street", Made::bare, x -> x.right(0, 0), BAD);
    }

    void whatIs0To6() {
        refused("what -1", Made::standing, x -> x.right(0, -1), BAD);
        refused("what 7", Made::standing, x -> x.right(0, 7), BAD);
        refused("what most", Made::standing, x -> x.right(0, MOST), BAD);
        refused("what least", Made::standing, x -> x.right(0, LEAST), BAD);
    }

    void whereItDoesNotPinchNobodyIsToTell() {
        right(Made.street(Made.ALL), 0, 0, NONE, NONE, NONE, NONE, NONE, NONE);
        right(Made.street("w2;d1,2,3;"), 0, 0, NONE, NONE, NONE, NONE, NONE, NONE);
    }

    void byNobodyAtOnePlaceIsNone() {
        DummyInches y = Made.street("w2;d3,0,5;d2,0,3;k1;");
        y.swap(0, 1);
        is("it pinches by 1", y.dummy(0, 0, 3), 1);
        is("it pinches by 2", y.dummy(0, 2, 3), 2);
        nobody(y, 0);
        right(y, 1, 2, 0, NONE, 0, -1, NONE, -2);
    }

    void noMouthsAreNobody() {
        nobody(pinching(1, ""), 0);
        nobody(pinching(-1, ""), 0);
    }

    void aValetTellsMinus99To99() {
        tells("v7;", 1, 7, 0, 1);
        tells("v7;", -1, 7, 0, -1);
        tells("v7;", 99, 7, 0, 99);
        tells("v7;", -99, 7, 0, -99);
        nobody(more(99, 1, "v0;"), 0);
        nobody(more(-99, -1, "v0;"), 0);
    }

    /** One inch more or less than a swap can make it pinch by, by a gossip who himself pads 49 at most. */
    private static DummyInches more(int by, int t, String mouths) {
        DummyInches x = pinching(by, mouths + "g99;");
        x.tell(x.count(2) - 1, 0, 0, t);
        return x;
    }

    void aRivalTellsTheOtherWay() {
        tells("r7;", 5, 7, 0, -5);
        tells("r7;", -5, 7, 0, 5);
        tells("r7;", 99, 7, 0, -99);
        tells("r7;", -99, 7, 0, 99);
        nobody(more(99, 1, "r0;"), 0);
        nobody(more(-99, -1, "r0;"), 0);
    }

    void aCookTellsHalfOfWhatIsEven() {
        tells("k7;", 2, 7, 0, 1);
        tells("k7;", 98, 7, 0, 49);
        tells("k7;", -1, 7, 0, -1);
        tells("k7;", -2, 7, 0, -2);
        tells("k7;", -99, 7, 0, -99);
        nobody(pinching(1, "k7;"), 0);
        nobody(pinching(99, "k7;"), 0);
        nobody(more(-99, -1, "k0;"), 0);
    }

    void aCookPads198AtMost() {
        DummyInches x = Made.street("w2;d0,0,0;k4;r9;g9;");
        x.tell(1, 0, 0, 99);
        right(x, 0, 4, 0, NONE, NONE, 99, NONE, NONE);
        x.tell(2, 0, 0, 1);
        is("it pinches by 199", x.dummy(0, 0, 3), 199);
        nobody(x, 0);
        x.tell(2, 0, 0, 1);
        is("it pinches by 200", x.dummy(0, 0, 3), 200);
        nobody(x, 0);
    }

    void aGossipTellsTheLeastOfTwo() {
        tells("g7;", 1, 7, 0, 2);
        tells("g7;", 49, 7, 0, 98);
        tells("g7;", -1, 7, 0, -3);
        tells("g7;", -2, 7, 0, -5);
        tells("g7;", -49, 7, 0, -99);
        nobody(pinching(50, "g7;"), 0);
        nobody(pinching(-50, "g7;"), 0);
    }

    void aSpyTellsTheLeastOfTwo() {
        tells("s7;", -1, 7, 0, 2);
        tells("s7;", -49, 7, 0, 98);
        tells("s7;", 1, 7, 0, -3);
        tells("s7;", 2, 7, 0, -5);
        tells("s7;", 49, 7, 0, -99);
        nobody(pinching(50, "s7;"), 0);
        nobody(pinching(-50, "s7;"), 0);
    }

    void theCheapestTells() {
        tells("v9;r8;v7;r6;v5;", 3, 5, 4, 3);
        tells("v5;r6;v7;r8;v9;", 3, 5, 0, 3);
        tells("v9;r8;v0;r6;v5;", 3, 0, 2, 3);
        tells("v99;", 3, 99, 0, 3);
    }

    void ofSeveralTheFirst() {
        tells("r5;v5;r5;", 3, 5, 0, -3);
        tells("v9;v5;r5;", 3, 5, 1, 3);
    }

    void theCheapestOfThoseWhoCan() {
        tells("k0;g1;v2;", 51, 2, 2, 51);
        tells("k0;g1;v2;", 49, 1, 1, 98);
        tells("k0;g1;v2;", 48, 0, 0, 24);
        tells("g1;k3;v2;", 52, 2, 2, 52);
    }

    void bribesOfAllPlacesAreAdded() {
        DummyInches x = Made.street("w2;d50,50,50;r7;v8;");
        x.tell(0, 0, 0, 4);
        x.tell(0, 0, 1, 1);
        x.tell(0, 0, 2, -5);
        right(x, 0, 21, 0, 0, 0, -8, -2, 10);
        DummyInches y = Made.street("w2;d50,50,50;k1;g2;");
        y.tell(1, 0, 0, 6);
        y.tell(1, 0, 1, 99);
        right(y, 0, 3, 1, 0, NONE, 6, 25, NONE);
        DummyInches z = Made.street("w2;d50,50,50;v99;r99;");
        for (int place = 0; place < 3; place++) {
            z.tell(1, 0, place, 1);
        }
        right(z, 0, 297, 0, 0, 0, 2, 2, 2);
    }

    void whatItPinchesByNowCounts() {
        DummyInches x = Made.street("w2;d50,50,50;k3;v5;");
        x.tell(0, 0, 0, 4);
        right(x, 0, 3, 0, NONE, NONE, -4, NONE, NONE);
        x.year();
        right(x, 0, 0, NONE, NONE, NONE, NONE, NONE, NONE);
        x.year();
        right(x, 0, 3, 0, NONE, NONE, 1, NONE, NONE);
    }

    void aFullLogDoesNotMatter() {
        DummyInches x = pinching(5, "v3;");
        for (int n = x.count(3); n < 16; n++) {
            x.year();
        }
        right(x, 0, 3, 0, NONE, NONE, 5, NONE, NONE);
    }

    void nothingChanges() {
        foretold("BRIBES", Made::standing, x -> x.right(1, 0), 0);
        foretold("who", Made::standing, x -> x.right(1, 2), 4);
        foretold("t", Made::standing, x -> x.right(1, 5), 10);
        foretold("who, where it does not pinch", Made::standing, x -> x.right(1, 1), NONE);
    }
}
