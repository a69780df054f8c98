/** Promise 1: a new object has no street, and nothing else. */
public final class Promise01NewObjectTest extends Promise {
    public static void main(String[] args) throws ReflectiveOperationException {
        new Promise01NewObjectTest().run();
    }

    void constantsAreAsTold() {
        is("NONE", DummyInches.NONE, NONE);
        is("BAD", DummyInches.BAD, BAD);
        is("STATE", DummyInches.STATE, STATE);
        is("FULL", DummyInches.FULL, FULL);
    }

    void nothingIsCounted() {
        for (int what = 0; what <= 6; what++) {
            is("count " + what, new DummyInches().count(what), 0);
        }
    }

    void thereIsNoStreet() {
        refused("year", DummyInches::new, x -> x.year(), STATE);
        refused("close", DummyInches::new, x -> x.close(), STATE);
        refused("image", DummyInches::new, x -> x.image(0), STATE);
        refused("swaps", DummyInches::new, x -> x.swaps(0, 0, 0), STATE);
        refused("lent", DummyInches::new, x -> x.lent(0, 0), STATE);
        refused("felt", DummyInches::new, x -> x.felt(0, 1, 0), STATE);
        refused("twins", DummyInches::new, x -> x.twins(-1), STATE);
    }

    void thereIsNoDummy() {
        refused("swap", DummyInches::new, x -> x.swap(0, 1), BAD);
        refused("dummy", DummyInches::new, x -> x.dummy(0, 0, 0), BAD);
        refused("was", DummyInches::new, x -> x.was(0, 0, 0), BAD);
        refused("liars", DummyInches::new, x -> x.liars(0, 0, 0, 0), BAD);
        refused("blame", DummyInches::new, x -> x.blame(0, 0, 0, 0, 0), BAD);
        refused("right", DummyInches::new, x -> x.right(0, 0), BAD);
        refused("most", DummyInches::new, x -> x.most(0, 0, 0), BAD);
        refused("addedUp", DummyInches::new, x -> x.addedUp(0, 0, 0), BAD);
    }

    void thereIsNoMouth() {
        refused("tell", DummyInches::new, x -> x.tell(0, 0, 0, 0), BAD);
        refused("pads", DummyInches::new, x -> x.pads(0, 0), BAD);
        refused("parted", DummyInches::new, x -> x.parted(0, 1, 0, 0), BAD);
        refused("kind", DummyInches::new, x -> x.kind(0), BAD);
        refused("as", DummyInches::new, x -> x.as(0, 0), BAD);
        refused("ask", DummyInches::new, x -> x.ask(0, 0), BAD);
    }

    void thereIsNoLine() {
        refused("line", DummyInches::new, x -> x.line(0, 0), BAD);
    }

    void nothingCanBeUndone() {
        refused("undo", DummyInches::new, x -> x.undo(), STATE);
    }

    void noImageWasKept() {
        refused("restore 0", DummyInches::new, x -> x.restore(0), STATE);
        refused("restore 1", DummyInches::new, x -> x.restore(1), STATE);
    }

    void allRowsAreMissing() {
        for (int n = 0; n < 8; n++) {
            int row = n;
            refused("drop " + row, DummyInches::new, x -> x.drop(row), NULL);
        }
    }

    void thereWasNoFaultNoFindingNoAsk() {
        DummyInches x = new DummyInches();
        is("fault", x.fault(), 0);
        is("status", x.status(), 0);
        is("trace", x.trace(0), NONE);
    }

    void theTapeIsEmpty() {
        DummyInches x = new DummyInches();
        is("read", x.street(), FAULT);
        is("first byte", x.feed('w'), 1);
    }

    void anotherObjectIsNewToo() {
        Made.standing();
        DummyInches x = new DummyInches();
        for (int what = 0; what <= 6; what++) {
            is("count " + what, x.count(what), 0);
        }
        is("fault", x.fault(), 0);
        is("restore", x.restore(0), STATE);
        is("trace", x.trace(0), NONE);
    }
}
