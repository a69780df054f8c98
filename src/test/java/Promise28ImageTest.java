/** Promise 28: image. */
public final class Promise28ImageTest extends Promise {
    public static void main(String[] args) throws ReflectiveOperationException {
        new Promise28ImageTest().run();
    }

    void imagesAre0And1() {
        DummyInches x = Made.street(Made.ALL);
        is("image 0", x.image(0), 1);
        is("image 1", x.image(1), 1);
        refused("image -1", Made::standing, y -> y.image(-1), BAD);
        refused("image 2", Made::standing, y -> y.image(2), BAD);
        refused("image most", Made::standing, y -> y.image(MOST), BAD);
        refused("image least", Made::standing, y -> y.image(LEAST), BAD);
    }

    void noStreetIsState() {
        refused("image 0", Made::bare, y -> y.image(0), STATE);
        refused("image 1", Made::bare, y -> y.image(1), STATE);
    }

    void badIsAheadOfState() {
        refused("image -1", Made::bare, y -> y.image(-1), BAD);
        refused("image 2", Made::bare, y -> y.image(2), BAD);
    }

    void keptAnewInPlaceOfTheOneBefore() {
        DummyInches x = Made.street("w2;d10,10,10;v0;");
        x.image(0);
        x.tell(0, 0, 0, 5);
        is("again", x.image(0), 1);
        x.tell(0, 0, 0, 5);
        x.restore(0);
        is("inches", x.dummy(0, 0, 0), 15);
        is("lines", x.count(3), 1);
    }

    void theTwoAreApart() {
        DummyInches x = Made.street("w2;d10,10,10;v0;");
        x.image(0);
        x.tell(0, 0, 0, 5);
        x.image(1);
        x.tell(0, 0, 0, 5);
        x.restore(0);
        is("inches of 0", x.dummy(0, 0, 0), 10);
        x.restore(1);
        is("inches of 1", x.dummy(0, 0, 0), 15);
    }

    void whatIsDoneThenDoesNotChangeIt() {
        DummyInches x = Made.street("w2;d10,10,10;d20,20,20;v0;");
        x.tell(0, 0, 0, 4);
        x.image(0);
        x.year();
        x.swap(0, 1);
        x.close();
        x.undo();
        x.undo();
        x.undo();
        x.undo();
        Made.read(x, "w3;d1,1,1;s5;");
        x.restore(0);
        is("inches", x.dummy(0, 0, 0), 14);
        is("made", x.dummy(0, 0, 1), 10);
        is("customer", x.dummy(0, 0, 2), 14);
        is("lines", x.count(3), 1);
        is("t", x.line(0, 4), 4);
        is("kind", x.kind(0), 1);
    }

    void noDummiesAreKeptToo() {
        DummyInches x = Made.street("w2;");
        is("kept", x.image(1), 1);
        is("restored", x.restore(1), 1);
        is("dummies", x.count(1), 0);
    }

    /** Image 0 was kept already: kept anew and as before, it changes nothing else. */
    void theStreetAndItsActsStay() {
        foretold("kept", Promise28ImageTest::kept, x -> x.image(1), 1);
    }

    private static DummyInches kept() {
        DummyInches x = Made.standing();
        x.image(1);
        return x;
    }
}
