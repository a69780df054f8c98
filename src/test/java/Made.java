/** Objects that were made in the same way each time, so that two of them can be compared. */
final class Made {
    /** Three dummies, and a mouth of each sort in the order of their kinds. */
    static final String ALL = "w4;d40,30,20;d41,35,22;d90,80,70;v5;k3;r9;g1;s0;";

    private Made() {
    }

    static DummyInches street(String text) {
        DummyInches x = new DummyInches();
        read(x, text);
        return x;
    }

    static void feed(DummyInches x, String text) {
        for (int i = 0; i < text.length(); i++) {
            x.feed(text.charAt(i));
        }
    }

    static int read(DummyInches x, String text) {
        feed(x, text);
        return x.street();
    }

    static void lay(DummyInches x, int row, int lane, int... items) {
        x.row(row, lane, items.length);
        for (int i = 0; i < items.length; i++) {
            x.set(row, i, items[i]);
        }
    }

    /** No street, but rows 0 to 3, bytes on the tape and a fault; rows 4 to 7 are missing. */
    static DummyInches bare() {
        DummyInches x = new DummyInches();
        fill(x);
        return x;
    }

    /** Something of everything: lines of each sort behind a log that was closed, acts, an image 0, a trace. */
    static DummyInches standing() {
        DummyInches x = street(ALL);
        x.tell(0, 0, 0, 9);
        x.year();
        x.close();
        x.image(0);
        x.tell(1, 1, 1, 10);
        x.year();
        x.swap(0, 2);
        x.tell(3, 0, 2, -5);
        x.ask(4, 1);
        fill(x);
        return x;
    }

    /** As standing(), the log with its 16 lines. */
    static DummyInches fullLog() {
        DummyInches x = standing();
        for (int n = x.count(3); n < 16; n++) {
            x.year();
        }
        return x;
    }

    /** As standing(), with 24 acts, of which the log has the last 11. */
    static DummyInches fullActs() {
        DummyInches x = standing();
        for (int n = x.count(5); n < 12; n++) {
            x.tell(0, 1, 0, 1);
        }
        x.close();
        for (int n = 13; n < 24; n++) {
            x.tell(0, 0, 0, 1);
        }
        return x;
    }

    /** As standing(), the tape with its 140 bytes. */
    static DummyInches fullTape() {
        DummyInches x = standing();
        for (int n = x.count(6); n < 140; n++) {
            x.feed('w');
        }
        return x;
    }

    private static void fill(DummyInches x) {
        read(x, "w1;");
        lay(x, 0, 0, 1, 2, 3, 4, 5, 6);
        lay(x, 1, 1, 7, 8, 9);
        lay(x, 2, 2, 10, 11, 12, 13);
        lay(x, 3, 0);
        feed(x, "w3;d7");
    }
}
