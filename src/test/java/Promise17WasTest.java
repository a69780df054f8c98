/** Promise 17: was. */
public final class Promise17WasTest extends Promise {
    public static void main(String[] args) throws ReflectiveOperationException {
        new Promise17WasTest().run();
    }

    void behindEachLine() {
        DummyInches x = Made.street("w2;d10,10,10;d20,20,20;v0;");
        x.tell(0, 0, 0, 7);
        x.year();
        x.swap(0, 1);
        x.tell(0, 0, 0, 5);
        x.year();
        int[] of0 = {10, 17, 14, 20, 25, 18};
        int[] of1 = {20, 20, 20, 14, 14, 14};
        for (int n = 0; n <= 5; n++) {
            is("0 behind " + n, x.was(n, 0, 0), of0[n]);
            is("1 behind " + n, x.was(n, 1, 0), of1[n]);
        }
        is("it is", x.dummy(0, 0, 0), 18);
    }

    void eachDummyAtEachPlace() {
        DummyInches x = Made.street("w2;d0,0,0;d0,0,0;d0,0,0;d0,0,0;v0;");
        for (int k = 0; k < 12; k++) {
            x.tell(0, k / 3, k % 3, 10 + k);
        }
        for (int k = 0; k < 12; k++) {
            is("ahead of its line", x.was(k, k / 3, k % 3), 0);
            is("behind its line", x.was(k + 1, k / 3, k % 3), 10 + k);
            is("behind all", x.was(12, k / 3, k % 3), 10 + k);
        }
    }

    void nIs0ToTheLines() {
        DummyInches x = Made.fullLog();
        is("0", x.was(0, 1, 1), 35);
        is("16", x.was(16, 1, 1), x.dummy(1, 1, 0));
        refused("-1", Made::fullLog, y -> y.was(-1, 0, 0), BAD);
        refused("17", Made::fullLog, y -> y.was(17, 0, 0), BAD);
        refused("5 of 4", Made::standing, y -> y.was(5, 0, 0), BAD);
        refused("most", Made::standing, y -> y.was(MOST, 0, 0), BAD);
        refused("least", Made::standing, y -> y.was(LEAST, 0, 0), BAD);
    }

    void noLinesHave0Alone() {
        DummyInches x = Made.street(Made.ALL);
        is("0", x.was(0, 2, 2), 70);
        is("1", x.was(1, 2, 2), BAD);
    }

    void dummiesAreThoseOfTheStreet() {
        refused("dummy -1", Made::standing, y -> y.was(0, -1, 0), BAD);
        refused("dummy 3", Made::standing, y -> y.was(0, 3, 0), BAD);
        refused("dummy most", Made::standing, y -> y.was(0, MOST, 0), BAD);
        refused("no dummies", () -> Made.street("w2;"), y -> y.was(0, 0, 0), BAD);
        refused("no street", Made::bare, y -> y.was(0, 0, 0), BAD);
    }

    void placesAre0To2() {
        DummyInches x = Made.standing();
        is("place 2", x.was(0, 1, 2), 22);
        refused("place -1", Made::standing, y -> y.was(0, 0, -1), BAD);
        refused("place 3", Made::standing, y -> y.was(0, 0, 3), BAD);
        refused("place most", Made::standing, y -> y.was(0, 0, MOST), BAD);
    }

    void aClosedLogBeginsAnew() {
        DummyInches x = Made.street("w2;d10,10,10;v0;");
        x.tell(0, 0, 0, 7);
        x.close();
        is("0", x.was(0, 0, 0), 17);
        x.tell(0, 0, 0, 2);
        is("0", x.was(0, 0, 0), 17);
        is("1", x.was(1, 0, 0), 19);
    }

    void undoneLinesAreNone() {
        DummyInches x = Made.street("w2;d10,10,10;v0;");
        x.tell(0, 0, 0, 7);
        x.tell(0, 0, 0, 2);
        x.undo();
        is("1", x.was(1, 0, 0), 17);
        is("2", x.was(2, 0, 0), BAD);
    }

    void anImageHasItsLines() {
        DummyInches x = Made.street("w2;d10,10,10;v0;");
        x.tell(0, 0, 0, 7);
        x.year();
        x.image(1);
        Made.read(x, "w9;d1,1,1;");
        x.restore(1);
        is("1", x.was(1, 0, 0), 17);
        is("2", x.was(2, 0, 0), 14);
    }

    void nothingChanges() {
        for (int k = 0; k <= 4; k++) {
            int n = k;
            int[] want = {47, 47, 47, 90, 90};
            foretold("was " + n, Made::standing, x -> x.was(n, 0, 0), want[n]);
        }
    }
}
