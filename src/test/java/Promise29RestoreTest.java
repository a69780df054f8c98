/** Promise 29: restore. */
public final class Promise29RestoreTest extends Promise {
    public static void main(String[] args) throws ReflectiveOperationException {
        new Promise29RestoreTest().run();
    }

    void imagesAre0And1() {
        refused("image -1", Made::standing, x -> x.restore(-1), BAD);
        refused("image 2", Made::standing, x -> x.restore(2), BAD);
        refused("image most", Made::standing, x -> x.restore(MOST), BAD);
        refused("image least", Made::standing, x -> x.restore(LEAST), BAD);
        refused("image 2, no street", Made::bare, x -> x.restore(2), BAD);
    }

    void noneKeptIsState() {
        refused("image 1", Made::standing, x -> x.restore(1), STATE);
        refused("image 0", () -> Made.street(Made.ALL), x -> x.restore(0), STATE);
        refused("no street", Made::bare, x -> x.restore(0), STATE);
        refused("no street", Made::bare, x -> x.restore(1), STATE);
    }

    void theStreetIsAsItWasKept() {
        DummyInches x = Made.street("w2;d10,10,10;k3;");
        x.tell(0, 0, 0, 10);
        x.year();
        x.image(0);
        Made.read(x, "w9;d1,1,1;d2,2,2;v1;s2;");
        x.swap(0, 1);
        is("restored", x.restore(0), 1);
        is("dummies", x.count(1), 1);
        is("mouths", x.count(2), 1);
        is("lines", x.count(3), 2);
        is("years", x.count(4), 1);
        is("inches", x.dummy(0, 0, 0), 20);
        is("made", x.dummy(0, 0, 1), 10);
        is("customer", x.dummy(0, 0, 2), 20);
        is("padded", x.line(0, 5), 20);
        is("a year", x.line(1, 0), 1);
        is("kind", x.kind(0), 2);
        is("mark", x.ask(0, 1), 2);
        is("it shrinks by 2", x.year(), 5);
    }

    void noActCanBeUndoneThen() {
        DummyInches x = Made.fullActs();
        x.restore(0);
        is("acts", x.count(5), 0);
        is("undo", x.undo(), STATE);
        x.tell(0, 0, 0, 1);
        is("acts", x.count(5), 1);
        is("undo", x.undo(), 0);
        is("undo", x.undo(), STATE);
        is("inches", x.dummy(0, 0, 0), 47);
    }

    void aFullLogIsKept() {
        DummyInches x = Made.fullLog();
        x.image(1);
        x.close();
        is("room", x.year(), 0);
        x.restore(1);
        is("lines", x.count(3), 16);
        is("full", x.year(), FULL);
    }

    void itCanBeRestoredAgain() {
        DummyInches x = Made.standing();
        x.restore(0);
        x.tell(0, 0, 0, 5);
        is("inches", x.dummy(0, 0, 0), 52);
        is("again", x.restore(0), 1);
        is("inches", x.dummy(0, 0, 0), 47);
        is("lines", x.count(3), 0);
    }

    void rowsTapeFaultTraceStatusAndImagesStay() {
        DummyInches x = Made.standing();
        x.image(1);
        x.drop(7);
        x.restore(0);
        is("rows", x.count(0), 4);
        is("bytes", x.count(6), 5);
        is("fault", x.fault(), 2);
        is("trace", x.trace(0), 23);
        is("status", x.status(), 1);
        is("image 1", x.restore(1), 1);
        is("its lines", x.count(3), 4);
    }
}
