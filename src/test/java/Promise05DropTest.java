/** Promise 5: drop. */
public final class Promise05DropTest extends Promise {
    public static void main(String[] args) throws ReflectiveOperationException {
        new Promise05DropTest().run();
    }

    void rowsAre0To7() {
        DummyInches x = new DummyInches();
        for (int row = 0; row <= 7; row++) {
            x.row(row, 0, row);
            is("row " + row, x.drop(row), row);
        }
        refused("row -1", Made::standing, y -> y.drop(-1), BAD);
        refused("row 8", Made::standing, y -> y.drop(8), BAD);
        refused("row least", Made::standing, y -> y.drop(LEAST), BAD);
        refused("row most", Made::standing, y -> y.drop(MOST), BAD);
    }

    void missingRowIsNull() {
        refused("row 4", Made::standing, y -> y.drop(4), NULL);
        refused("row 7", Made::bare, y -> y.drop(7), NULL);
    }

    void itHad0To40Items() {
        DummyInches x = new DummyInches();
        for (int n : new int[] {0, 1, 40}) {
            x.row(2, 1, n);
            is("items " + n, x.drop(2), n);
        }
    }

    void itIsMissingFromNowOn() {
        DummyInches x = Made.standing();
        is("dropped", x.drop(0), 6);
        is("rows", x.count(0), 3);
        is("again", x.drop(0), NULL);
        is("set", x.set(0, 0, 1), NULL);
        is("copy", x.copy(0, 0, 0, 0, 0), NULL);
        is("liars", x.liars(0, 0, 0, 0), NULL);
        is("the others stay", x.drop(1), 3);
    }

    void itCanBeLaidAnew() {
        DummyInches x = new DummyInches();
        Scale.stand(x);
        Made.lay(x, 0, 0, 1, 2, 3);
        x.drop(0);
        is("laid", x.row(0, 0, 3), 3);
        for (int i = 0; i < 3; i++) {
            is("item " + i, Scale.item(x, 0, 0, i), 0);
        }
    }

    void statusIs0BehindIt() {
        DummyInches x = Made.standing();
        x.drop(7);
        x.drop(3);
        is("status", x.status(), 0);
    }
}
