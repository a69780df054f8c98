import java.util.ArrayList;
import java.util.List;

/**
 * All that an object holds but its status, read by its calls; the object is used up by it. With what
 * Made does before, this stays below the 512 calls for which an object is promised anything.
 */
final class Reading {
    private final DummyInches x;
    private final List<String> read = new ArrayList<>();

    private Reading(DummyInches x) {
        this.x = x;
    }

    static List<String> of(DummyInches x) {
        Reading reading = new Reading(x);
        reading.counts();
        reading.street();
        reading.mouths();
        reading.acts();
        reading.images();
        reading.tape();
        reading.rows();
        return reading.read;
    }

    private void note(String what, int answer) {
        read.add(what + " " + answer);
    }

    private void counts() {
        for (int what = 0; what <= 6; what++) {
            note("count " + what, x.count(what));
        }
        note("fault", x.fault());
        int body = x.trace(0);
        for (int i = 1; body != DummyInches.NONE; i++) {
            note("trace", body);
            body = x.trace(i);
        }
        for (int row = 0; row < 8; row++) {
            note("row " + row, x.copy(row, 0, row, 0, 0));
        }
    }

    private void street() {
        int dummies = x.count(1);
        for (int dummy = 0; dummy < dummies; dummy++) {
            for (int k = 0; k < 9; k++) {
                note("dummy " + dummy + " " + k, x.dummy(dummy, k / 3, k % 3));
            }
        }
        int lines = x.count(3);
        for (int line = 0; line < lines; line++) {
            for (int what = 0; what < 6; what++) {
                note("line " + line + " " + what, x.line(line, what));
            }
        }
    }

    /** Their kinds, and asks that tell their bribes and numbers. */
    private void mouths() {
        int mouths = x.count(2);
        for (int mouth = 0; mouth < mouths; mouth++) {
            note("kind " + mouth, x.kind(mouth));
            note("size " + mouth, x.ask(mouth, 0));
            note("mark " + mouth, x.ask(mouth, 1));
        }
    }

    /** What is left is undone one by one; then a year tells by what felt shrinks. */
    private void acts() {
        int left = x.undo();
        while (left >= 0) {
            note("undone", left);
            note("lines", x.count(3));
            note("inches", x.dummy(0, 0, 0));
            note("customer", x.dummy(1, 1, 2));
            left = x.undo();
        }
        note("undone", left);
        x.close();
        note("padded", x.tell(0, 0, 0, 99));
        note("shrunk", x.year());
    }

    private void images() {
        for (int k = 0; k < 2; k++) {
            note("restored " + k, x.restore(k));
            note("lines", x.count(3));
            int dummies = x.count(1);
            for (int dummy = 0; dummy < dummies; dummy++) {
                for (int place = 0; place < 3; place++) {
                    note("image " + dummy + " " + place, x.dummy(dummy, place, 0));
                }
            }
        }
    }

    /** Ends the dummy that Made leaves on the tape half told. */
    private void tape() {
        Made.feed(x, ",8,9;");
        note("tape", x.street());
        note("fault", x.fault());
        for (int place = 0; place < 3; place++) {
            note("told " + place, x.dummy(0, place, 0));
        }
    }

    private void rows() {
        Scale.stand(x);
        for (int row = 0; row < 7; row++) {
            if (x.copy(row, 0, row, 0, 0) == 0) {
                int lane = Scale.lane(x, row);
                note("lane of " + row, lane);
                for (int i = 0; x.copy(row, i, row, i, 1) == 1; i++) {
                    note("item " + row + " " + i, Scale.item(x, row, lane, i));
                }
            }
        }
    }
}
