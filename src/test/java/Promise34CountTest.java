/** Promise 34: count. */
public final class Promise34CountTest extends Promise {
    public static void main(String[] args) throws ReflectiveOperationException {
        new Promise34CountTest().run();
    }

    void whatIs0To6() {
        int[] want = {4, 3, 5, 4, 1, 7, 5};
        for (int k = 0; k <= 6; k++) {
            int what = k;
            foretold("what " + what, Made::standing, x -> x.count(what), want[what]);
        }
        refused("what -1", Made::standing, x -> x.count(-1), BAD);
        refused("what 7", Made::standing, x -> x.count(7), BAD);
        refused("what most", Made::standing, x -> x.count(MOST), BAD);
        refused("what least", Made::standing, x -> x.count(LEAST), BAD);
        refused("what 7, no street", Made::bare, x -> x.count(7), BAD);
    }

    void withNoStreet() {
        int[] want = {4, 0, 0, 0, 0, 0, 5};
        for (int what = 0; what <= 6; what++) {
            is("what " + what, Made.bare().count(what), want[what]);
        }
    }

    void rowsAre8AtMost() {
        DummyInches x = new DummyInches();
        for (int row = 7; row >= 0; row--) {
            x.row(row, 0, 0);
            is("rows", x.count(0), 8 - row);
        }
        x.row(3, 1, 4);
        is("laid anew", x.count(0), 8);
        x.drop(3);
        is("dropped", x.count(0), 7);
    }

    void dummiesAndMouths() {
        DummyInches x = new DummyInches();
        Made.read(x, "w2;d1,1,1;d1,1,1;d1,1,1;d1,1,1;v1;v1;v1;v1;v1;");
        is("dummies", x.count(1), 4);
        is("mouths", x.count(2), 5);
        Made.read(x, "w2;");
        is("no dummies", x.count(1), 0);
        is("no mouths", x.count(2), 0);
    }

    void linesAndYearsAmongThem() {
        DummyInches x = Made.street(Made.ALL);
        x.year();
        x.tell(0, 0, 0, 1);
        x.swap(0, 1);
        x.year();
        is("lines", x.count(3), 4);
        is("years", x.count(4), 2);
        x.undo();
        is("years", x.count(4), 1);
        x.close();
        is("lines", x.count(3), 0);
        is("years", x.count(4), 0);
        for (int n = 0; n < 17; n++) {
            x.year();
        }
        is("16 lines", x.count(3), 16);
        is("16 years", x.count(4), 16);
    }

    void actsAre24AtMost() {
        DummyInches x = Made.fullActs();
        is("24", x.count(5), 24);
        x.close();
        is("24 yet", x.count(5), 24);
        x.undo();
        is("23", x.count(5), 23);
    }

    void bytesAre140AtMost() {
        DummyInches x = Made.fullTape();
        is("140", x.count(6), 140);
        x.feed('w');
        is("140 yet", x.count(6), 140);
        x.street();
        is("read", x.count(6), 0);
    }
}
