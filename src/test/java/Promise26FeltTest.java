/** Promise 26: felt. */
public final class Promise26FeltTest extends Promise {
    public static void main(String[] args) throws ReflectiveOperationException {
        new Promise26FeltTest().run();
    }

    private void cut(DummyInches x, int b, int bolts, int waste) {
        is("bolts of " + b, x.felt(0, b, 0), bolts);
        is("waste of " + b, x.felt(0, b, 1), waste);
    }

    private static DummyInches strips(int... lengths) {
        StringBuilder text = new StringBuilder("w2;");
        for (int length : lengths) {
            text.append("d").append(length).append(",0,0;");
        }
        return Made.street(text.append("v0;k0;").toString());
    }

    void noStreetIsStateAheadOfBad() {
        refused("no street", Made::bare, x -> x.felt(0, 1, 0), STATE);
        refused("place", Made::bare, x -> x.felt(3, 1, 0), STATE);
        refused("b", Made::bare, x -> x.felt(0, 0, 0), STATE);
        refused("what", Made::bare, x -> x.felt(0, 1, 2), STATE);
    }

    void placesAre0To2() {
        DummyInches x = Made.street("w2;d7,8,9;");
        for (int place = 0; place < 3; place++) {
            is("place " + place, x.felt(place, 10, 1), 3 - place);
        }
        refused("place -1", Made::standing, y -> y.felt(-1, 100, 0), BAD);
        refused("place 3", Made::standing, y -> y.felt(3, 100, 0), BAD);
        refused("place most", Made::standing, y -> y.felt(MOST, 100, 0), BAD);
        refused("place least", Made::standing, y -> y.felt(LEAST, 100, 0), BAD);
    }

    void boltsAre1To200Long() {
        cut(strips(1, 1, 1, 1), 1, 4, 0);
        cut(strips(1, 1, 1, 1), 200, 1, 196);
        refused("b 0", Made::standing, x -> x.felt(0, 0, 0), BAD);
        refused("b -1", Made::standing, x -> x.felt(0, -1, 0), BAD);
        refused("b 201", Made::standing, x -> x.felt(0, 201, 0), BAD);
        refused("b most", Made::standing, x -> x.felt(0, MOST, 0), BAD);
        refused("b least", Made::standing, x -> x.felt(0, LEAST, 0), BAD);
    }

    void whatIs0Or1() {
        refused("what -1", Made::standing, x -> x.felt(0, 100, -1), BAD);
        refused("what 2", Made::standing, x -> x.felt(0, 100, 2), BAD);
        refused("what most", Made::standing, x -> x.felt(0, 100, MOST), BAD);
    }

    void badIsAheadOfNone() {
        refused("what", Made::standing, x -> x.felt(0, 1, 2), BAD);
    }

    void aStripThatIsLongerIsNone() {
        cut(strips(60), 60, 1, 0);
        cut(strips(60), 59, NONE, NONE);
        cut(strips(1, 1, 1, 60), 59, NONE, NONE);
        cut(strips(60, 1, 1, 1), 59, NONE, NONE);
        cut(strips(2), 1, NONE, NONE);
    }

    void noStripsNeedNoBolts() {
        cut(strips(), 50, 0, 0);
        cut(strips(0), 1, 0, 0);
        cut(strips(0, 0, 0, 0), 200, 0, 0);
    }

    void thoseAbove0Alone() {
        cut(strips(0, 5, 0, 5), 5, 2, 0);
        DummyInches x = strips(60, 50, 40, 30);
        x.tell(0, 0, 0, -61);
        is("below 0", x.dummy(0, 0, 0), -1);
        cut(x, 50, 3, 30);
        cut(x, 80, 2, 40);
        x.tell(0, 0, 0, 2);
        is("1", x.dummy(0, 0, 0), 1);
        cut(x, 50, 3, 29);
    }

    void theFewestBolts() {
        DummyInches x = strips(60, 50, 40, 30);
        cut(x, 60, 4, 60);
        cut(x, 69, 4, 96);
        cut(x, 70, 3, 30);
        cut(x, 89, 3, 87);
        cut(x, 90, 2, 0);
        cut(x, 179, 2, 178);
        cut(x, 180, 1, 0);
        cut(x, 200, 1, 20);
    }

    void theOrderOfDummiesDoesNotMatter() {
        int[][] orders = {{60, 50, 40, 30}, {30, 40, 50, 60}, {50, 60, 30, 40}, {40, 60, 30, 50}, {60, 30, 50, 40}};
        for (int[] order : orders) {
            cut(strips(order), 90, 2, 0);
            cut(strips(order), 89, 3, 87);
            cut(strips(order), 120, 2, 60);
        }
    }

    /** Where the longest first, each into the first bolt that has room, needs one more. */
    void threeInOneBolt() {
        cut(strips(50, 20, 20, 10), 50, 2, 0);
        cut(strips(30, 30, 30, 90), 90, 2, 0);
        cut(strips(31, 30, 30, 90), 90, 3, 89);
        cut(strips(30, 30, 30, 89), 90, 2, 1);
    }

    void allLikeStrips() {
        cut(strips(25, 25, 25, 25), 100, 1, 0);
        cut(strips(25, 25, 25, 25), 99, 2, 98);
        cut(strips(25, 25, 25, 25), 75, 2, 50);
        cut(strips(25, 25, 25, 25), 74, 2, 48);
        cut(strips(25, 25, 25, 25), 50, 2, 0);
        cut(strips(25, 25, 25, 25), 49, 4, 96);
    }

    void inchesAsTheyAreNow() {
        DummyInches x = strips(99, 0);
        x.tell(1, 0, 0, 50);
        is("199", x.dummy(0, 0, 0), 199);
        cut(x, 199, 1, 0);
        cut(x, 198, NONE, NONE);
        cut(x, 200, 1, 1);
        x.year();
        cut(x, 149, 1, 0);
        x.tell(1, 0, 0, 99);
        cut(x, 200, NONE, NONE);
    }

    void nothingChanges() {
        foretold("bolts", Made::standing, x -> x.felt(0, 178, 0), 1);
        foretold("waste", Made::standing, x -> x.felt(0, 178, 1), 0);
        foretold("none", Made::standing, x -> x.felt(0, 89, 1), NONE);
    }
}
