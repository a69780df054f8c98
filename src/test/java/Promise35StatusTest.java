import java.util.function.ToIntFunction;

/** Promise 35: status. */
public final class Promise35StatusTest extends Promise {
    public static void main(String[] args) throws ReflectiveOperationException {
        new Promise35StatusTest().run();
    }

    /** As standing(), row 5 with zeros for nine items; status 0 behind it. */
    private static DummyInches made() {
        DummyInches x = Made.standing();
        x.row(5, 2, 9);
        return x;
    }

    /** Behind each status there can be, the call leaves this one. */
    private void tells(String what, int status, ToIntFunction<DummyInches> call) {
        for (int before = 0; before <= 5; before++) {
            DummyInches x = made();
            has(x, before);
            call.applyAsInt(x);
            is(what + " behind " + before, x.status(), status);
        }
    }

    /** Behind each status there can be, the call leaves it. */
    private void leaves(String what, ToIntFunction<DummyInches> call) {
        for (int before = 0; before <= 5; before++) {
            DummyInches x = made();
            has(x, before);
            call.applyAsInt(x);
            is(what + " behind " + before, x.status(), before);
        }
    }

    private void has(DummyInches x, int status) {
        switch (status) {
            case 0: x.as(0, 0); break;
            case 1: x.drop(7); break;
            case 2: x.set(0, 6, 0); break;
            case 3: x.as(0, 2); break;
            case 4: x.row(0, 0, -1); break;
            default: x.copy(0, 0, 1, 0, 1); break;
        }
        is("status", x.status(), status);
    }

    void itIs0AtFirst() {
        is("new", new DummyInches().status(), 0);
    }

    void findingsAre1To5() {
        tells("NULL", 1, x -> x.set(7, 0, 0));
        tells("PLACE", 2, x -> x.set(0, -1, 0));
        tells("KIND", 3, x -> x.as(4, 1));
        tells("SIZE", 4, x -> x.row(7, 2, -1));
        tells("STORE", 5, x -> x.copy(1, 0, 2, 0, 1));
    }

    void callsWithARowThatFindNothing() {
        tells("row", 0, x -> x.row(0, 0, 1));
        tells("set", 0, x -> x.set(0, 0, 1));
        tells("copy", 0, x -> x.copy(0, 0, 0, 1, 1));
        tells("drop", 0, x -> x.drop(0));
        tells("liars", 0, x -> x.liars(2, 5, 0, 0));
        tells("blame", 0, x -> x.blame(2, 0, 5, 0, 0));
        tells("swaps", 0, x -> x.swaps(5, 0, 0));
        tells("as", 0, x -> x.as(4, 4));
    }

    void callsWithARowThatAnswerNone() {
        tells("liars", 0, x -> x.liars(0, 0, 0, 1));
        tells("blame", 0, x -> x.blame(0, 0, 0, 0, 1));
        tells("swaps", 0, x -> x.swaps(5, 0, 1));
    }

    void callsWithARowThatFind() {
        tells("drop", 1, x -> x.drop(7));
        tells("copy", 1, x -> x.copy(0, 0, 7, 0, 1));
        tells("liars", 1, x -> x.liars(0, 7, 0, 0));
        tells("blame", 1, x -> x.blame(0, 0, 7, 0, 0));
        tells("swaps", 1, x -> x.swaps(7, 0, 0));
        tells("copy", 2, x -> x.copy(0, 0, 0, 0, 7));
        tells("liars", 2, x -> x.liars(0, 5, 7, 0));
        tells("blame", 2, x -> x.blame(0, 0, 5, 7, 0));
        tells("swaps", 2, x -> x.swaps(5, 1, 0));
    }

    void badLeavesIt() {
        leaves("row", x -> x.row(8, 0, 0));
        leaves("row of 41", x -> x.row(0, 0, 41));
        leaves("set", x -> x.set(8, 0, 0));
        leaves("copy", x -> x.copy(0, 0, 8, 0, 0));
        leaves("drop", x -> x.drop(-1));
        leaves("liars", x -> x.liars(0, 0, 0, 2));
        leaves("blame", x -> x.blame(0, 5, 0, 0, 0));
        leaves("swaps", x -> x.swaps(0, 0, 2));
        leaves("as", x -> x.as(5, 0));
        leaves("as 6", x -> x.as(0, 6));
    }

    void stateLeavesIt() {
        DummyInches x = Made.bare();
        x.drop(7);
        is("swaps", x.swaps(0, 0, 0), STATE);
        is("status", x.status(), 1);
        x.row(0, 0, -1);
        x.swaps(7, 0, 0);
        is("status", x.status(), 4);
        leaves("undo, restore, lent", y -> y.restore(1) + y.lent(1, 0));
    }

    void fullLeavesIt() {
        DummyInches x = Made.fullLog();
        x.drop(7);
        is("tell", x.tell(0, 0, 0, 0), FULL);
        is("year", x.year(), FULL);
        is("swap", x.swap(0, 1), FULL);
        is("status", x.status(), 1);
        DummyInches y = Made.fullTape();
        y.drop(7);
        is("feed", y.feed('w'), FULL);
        is("status", y.status(), 1);
    }

    void callsWithNoRowLeaveIt() {
        leaves("feed, street, fault", x -> x.feed('q') + x.street() + x.fault());
        leaves("tell, year, swap, close", x -> x.tell(0, 0, 0, 1) + x.year() + x.swap(0, 1) + x.close());
        leaves("undo", x -> x.undo());
        leaves("dummy, line, pads, was", x -> x.dummy(0, 0, 0) + x.line(0, 0) + x.pads(0, 1) + x.was(0, 0, 0));
        leaves("right, most, lent", x -> x.right(0, 0) + x.most(0, 0, 0) + x.lent(0, 0));
        leaves("parted, addedUp, felt", x -> x.parted(0, 1, 0, 0) + x.addedUp(0, 0, 0) + x.felt(0, 99, 0));
        leaves("twins, image, restore", x -> x.twins(0) + x.image(1) + x.restore(1));
        leaves("kind, ask, trace, count", x -> x.kind(0) + x.ask(0, 0) + x.trace(0) + x.count(0));
        leaves("status", x -> x.status());
    }

    void aStreetThatIsReadLeavesIt() {
        DummyInches x = new DummyInches();
        x.drop(0);
        Made.read(x, "w2;");
        is("status", x.status(), 1);
    }

    void statusChangesNothing() {
        foretold("status", Made::standing, x -> x.status(), 4);
    }
}
