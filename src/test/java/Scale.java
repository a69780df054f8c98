/** A street by which an item of a row can be read: its five gossips make it pinch by 1, 2, 4, 8, 16. */
final class Scale {
    private static final int[] TOLD = {1, 4, 8, 16, 32};
    private static final int PAN = 7;

    private Scale() {
    }

    /** A street is read, and row 7 is laid anew by each reading. */
    static void stand(DummyInches x) {
        Made.read(x, "w2;d0,0,0;g0;g0;g0;g0;g0;");
        for (int mouth = 0; mouth < TOLD.length; mouth++) {
            x.tell(mouth, 0, 0, TOLD[mouth]);
        }
    }

    /** The item, if it is 0 to 31; else what was found, or NONE. */
    static int item(DummyInches x, int row, int lane, int i) {
        x.row(PAN, lane, 3);
        int moved = x.copy(row, i, PAN, 0, 1);
        return moved == 1 ? x.liars(0, PAN, 0, 1) : moved;
    }

    /** The lane of a row that is there. */
    static int lane(DummyInches x, int row) {
        for (int lane = 0; lane < 3; lane++) {
            x.row(PAN, lane, 0);
            if (x.copy(row, 0, PAN, 0, 0) == 0) {
                return lane;
            }
        }
        return -1;
    }
}
