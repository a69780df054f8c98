/** Promise 8: fault. */
public final class Promise08FaultTest extends Promise {
    public static void main(String[] args) throws ReflectiveOperationException {
        new Promise08FaultTest().run();
    }

    void itIs0BeforeOne() {
        DummyInches x = new DummyInches();
        is("new", x.fault(), 0);
        x.feed('q');
        is("fed, not read", x.fault(), 0);
        DummyInches y = Made.street("w2;");
        is("read", y.fault(), 0);
    }

    void itIs1To3() {
        DummyInches x = new DummyInches();
        Made.read(x, "q");
        is("cannot stand", x.fault(), 1);
        Made.read(x, "w1;");
        is("not as told", x.fault(), 2);
        Made.read(x, "w2;v1;v1;v1;v1;v1;v1;");
        is("no room", x.fault(), 3);
        Made.read(x, "");
        is("no bytes", x.fault(), 1);
    }

    void itIsTheLatest() {
        DummyInches x = new DummyInches();
        Made.read(x, "w1;");
        Made.read(x, "w2;");
        is("behind a street", x.fault(), 2);
        x.image(0);
        Made.read(x, "q");
        is("behind another", x.fault(), 1);
        x.restore(0);
        is("behind an image", x.fault(), 1);
        x.feed(256);
        x.undo();
        is("behind refusals", x.fault(), 1);
    }

    void nothingChanges() {
        foretold("no street", Made::bare, x -> x.fault(), 2);
        foretold("a street", Made::standing, x -> x.fault(), 2);
    }
}
