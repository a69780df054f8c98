/** Promise 6: feed. */
public final class Promise06FeedTest extends Promise {
    public static void main(String[] args) throws ReflectiveOperationException {
        new Promise06FeedTest().run();
    }

    void bytesAre0To255() {
        DummyInches x = new DummyInches();
        is("0", x.feed(0), 1);
        is("255", x.feed(255), 2);
        refused("-1", Made::standing, y -> y.feed(-1), BAD);
        refused("256", Made::standing, y -> y.feed(256), BAD);
        refused("least", Made::standing, y -> y.feed(LEAST), BAD);
        refused("most", Made::standing, y -> y.feed(MOST), BAD);
        refused("-1, no street", Made::bare, y -> y.feed(-1), BAD);
    }

    void theTapeHas140AtMost() {
        DummyInches x = new DummyInches();
        for (int n = 1; n <= 140; n++) {
            is("byte " + n, x.feed(n), n);
            is("bytes", x.count(6), n);
        }
        is("byte 141", x.feed(1), FULL);
        is("again", x.feed(1), FULL);
        is("bytes", x.count(6), 140);
    }

    void fullLeavesAll() {
        refused("full", Made::fullTape, y -> y.feed('w'), FULL);
    }

    void badIsAheadOfFull() {
        refused("-1", Made::fullTape, y -> y.feed(-1), BAD);
        refused("256", Made::fullTape, y -> y.feed(256), BAD);
    }

    void itGoesOnBehindAReading() {
        DummyInches x = Made.fullTape();
        x.street();
        is("first again", x.feed('w'), 1);
        Made.feed(x, "2;d1,2,3;");
        is("read", x.street(), 1);
        is("its last", x.dummy(0, 2, 0), 3);
        is("first again", x.feed('w'), 1);
    }

    void aWholeTapeIsReadFromItsFirst() {
        DummyInches x = new DummyInches();
        Made.feed(x, "w2;d1,2,3;");
        for (int n = x.count(6); n < 140; n++) {
            x.feed('w');
        }
        is("the first that cannot stand", x.street(), FAULT - 10);
    }

    void refusedBytesAreNotOnTheTape() {
        DummyInches x = new DummyInches();
        x.feed('w');
        x.feed(256 + '9');
        x.feed('2');
        x.feed(-1);
        x.feed(';');
        is("read", x.street(), 0);
    }
}
