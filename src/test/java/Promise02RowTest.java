/** Promise 2: row. */
public final class Promise02RowTest extends Promise {
    public static void main(String[] args) throws ReflectiveOperationException {
        new Promise02RowTest().run();
    }

    void rowsAre0To7() {
        DummyInches x = new DummyInches();
        for (int row = 0; row <= 7; row++) {
            is("row " + row, x.row(row, 0, 1), 1);
            is("rows", x.count(0), row + 1);
        }
        refused("row -1", Made::standing, y -> y.row(-1, 0, 1), BAD);
        refused("row 8", Made::standing, y -> y.row(8, 0, 1), BAD);
        refused("row least", Made::standing, y -> y.row(LEAST, 0, 1), BAD);
        refused("row most", Made::standing, y -> y.row(MOST, 0, 1), BAD);
    }

    void lanesAre0To2() {
        DummyInches x = new DummyInches();
        for (int lane = 0; lane <= 2; lane++) {
            is("lane " + lane, x.row(lane, lane, 1), 1);
        }
        refused("lane -1", Made::standing, y -> y.row(0, -1, 1), BAD);
        refused("lane 3", Made::standing, y -> y.row(0, 3, 1), BAD);
        refused("lane least", Made::standing, y -> y.row(0, LEAST, 1), BAD);
        refused("lane most", Made::standing, y -> y.row(0, MOST, 1), BAD);
    }

    void itemsAre0To40() {
        DummyInches x = new DummyInches();
        for (int n : new int[] {0, 1, 39, 40}) {
            is("n " + n, x.row(0, 2, n), n);
            is("items " + n, x.drop(0), n);
        }
        refused("n 41", Made::standing, y -> y.row(0, 0, 41), BAD);
        refused("n 41, missing yet", Made::standing, y -> y.row(5, 0, 41), BAD);
        refused("n most", Made::standing, y -> y.row(0, 0, MOST), BAD);
    }

    void fewerThanNoneIsSize() {
        refused("n -1", Made::standing, y -> y.row(0, 0, -1), SIZE);
        refused("n -1, missing yet", Made::standing, y -> y.row(5, 0, -1), SIZE);
        refused("n least", Made::standing, y -> y.row(0, 0, LEAST), SIZE);
        refused("n -1, no street", Made::bare, y -> y.row(0, 0, -1), SIZE);
    }

    void badIsAheadOfSize() {
        refused("row -1", Made::standing, y -> y.row(-1, 0, -1), BAD);
        refused("row 8", Made::standing, y -> y.row(8, 0, -1), BAD);
        refused("lane -1", Made::standing, y -> y.row(0, -1, -1), BAD);
        refused("lane 3", Made::standing, y -> y.row(0, 3, -1), BAD);
    }

    void itemsAre0AtFirst() {
        DummyInches x = new DummyInches();
        Scale.stand(x);
        for (int lane = 0; lane <= 2; lane++) {
            x.row(0, lane, 40);
            for (int i : new int[] {0, 1, 20, 38, 39}) {
                is("lane " + lane + " item " + i, Scale.item(x, 0, lane, i), 0);
            }
        }
    }

    void laidInPlaceOfWhatIsThere() {
        DummyInches x = new DummyInches();
        Scale.stand(x);
        Made.lay(x, 0, 0, 1, 2, 3, 4, 5, 6);
        is("fewer, of another lane", x.row(0, 2, 3), 3);
        is("still one row", x.count(0), 1);
        is("lane", x.set(0, 0, 70000), 70000);
        is("no place 3", x.set(0, 3, 1), PLACE);
        is("more again", x.row(0, 2, 6), 6);
        for (int i = 0; i < 6; i++) {
            is("item " + i, Scale.item(x, 0, 2, i), 0);
        }
    }

    void laidWithNoneInPlaceOfSome() {
        DummyInches x = new DummyInches();
        Made.lay(x, 0, 0, 1, 2, 3);
        is("none", x.row(0, 0, 0), 0);
        is("it is there", x.count(0), 1);
        is("no place", x.set(0, 0, 1), PLACE);
    }

    void otherRowsStay() {
        DummyInches x = new DummyInches();
        Scale.stand(x);
        Made.lay(x, 1, 1, 7, 8, 9);
        x.row(0, 1, 40);
        x.row(2, 1, 40);
        for (int i = 0; i < 3; i++) {
            is("item " + i, Scale.item(x, 1, 1, i), 7 + i);
        }
    }

    void statusIs0BehindIt() {
        DummyInches x = new DummyInches();
        x.drop(0);
        x.row(0, 0, 0);
        is("status", x.status(), 0);
    }
}
