/** Promises 1 to 5 and 35: rows, their findings, status. */
public final class RowsTest {
    private static final int BAD = DummyInches.BAD;
    private static final int NULL = -1000011, PLACE = -1000012, SIZE = -1000014, STORE = -1000015;
    private static final int MOST = Integer.MAX_VALUE, LEAST = Integer.MIN_VALUE;

    public static void main(String[] args) {
        Due due = new Due();
        newObject(due);
        rowIsLaid(due);
        itemIsSet(due);
        itemsAreCopied(due);
        copyFinds(due);
        rowIsDropped(due);
        statusTells(due);
        due.end();
    }

    private static void newObject(Due due) {
        DummyInches x = new DummyInches();
        for (int what = 0; what <= 6; what++) {
            due.is("new count " + what, x.count(what), 0);
        }
        due.is("new fault", x.fault(), 0);
        due.is("new status", x.status(), 0);
        due.is("new trace", x.trace(0), DummyInches.NONE);
        due.is("new year", x.year(), DummyInches.STATE);
        due.is("new undo", x.undo(), DummyInches.STATE);
        due.is("new image", x.image(0), DummyInches.STATE);
        due.is("new restore", x.restore(1), DummyInches.STATE);
        for (int row = 0; row < 8; row++) {
            due.is("new drop", x.drop(row), NULL);
        }
    }

    private static void rowIsLaid(Due due) {
        DummyInches x = new DummyInches();
        due.is("row 0", x.row(0, 0, 0), 0);
        due.is("row 40", x.row(7, 2, 40), 40);
        due.is("row 41", x.row(0, 0, 41), BAD);
        due.is("row -1", x.row(-1, 0, 1), BAD);
        due.is("row 8", x.row(8, 0, 1), BAD);
        due.is("lane -1", x.row(0, -1, 1), BAD);
        due.is("lane 3", x.row(0, 3, 1), BAD);
        due.is("size", x.row(1, 1, -1), SIZE);
        due.is("least size", x.row(1, 1, LEAST), SIZE);
        due.is("bad ahead of size", x.row(8, 1, -1), BAD);
        due.is("two rows", x.count(0), 2);
        due.is("laid", x.row(1, 1, 2), 2);
        x.set(1, 1, 5);
        due.is("size keeps", x.row(1, 0, -1), SIZE);
        due.is("still there", x.copy(1, 1, 1, 0, 1), 1);
        due.is("laid again", x.row(1, 2, 3), 3);
        due.is("zeros again", zeros(x, 1, 3), 3);
        due.is("three rows", x.count(0), 3);
    }

    /** How many of the first three items are 0, told by liars of an untold dummy. */
    private static int zeros(DummyInches x, int row, int n) {
        Due.read(x, "w2;d1,1,1;");
        return x.liars(0, row, 0, 0) == 1 ? n : -1;
    }

    private static void itemIsSet(Due due) {
        DummyInches x = new DummyInches();
        due.is("null", x.set(0, 0, 1), NULL);
        x.row(0, 0, 2);
        x.row(1, 1, 2);
        x.row(2, 2, 2);
        int[] values = {0, 127, 128, 255, 256, -1, -128, -129, 32767, 32768, 65535, 65536, MOST, LEAST};
        for (int v : values) {
            due.is("byte " + v, x.set(0, 1, v), (byte) v);
            due.is("short " + v, x.set(1, 0, v), (short) v);
            due.is("int " + v, x.set(2, 1, v), v);
        }
        due.is("place -1", x.set(0, -1, 1), PLACE);
        due.is("place 2", x.set(0, 2, 1), PLACE);
        due.is("place most", x.set(0, MOST, 1), PLACE);
        due.is("row 8", x.set(8, 0, 1), BAD);
        due.is("row -1", x.set(-1, 0, 1), BAD);
        x.row(3, 0, 0);
        due.is("no items", x.set(3, 0, 1), PLACE);
    }

    private static void itemsAreCopied(Due due) {
        DummyInches x = new DummyInches();
        Due.read(x, "w2;d1,2,3;d4,5,6;");
        Due.lay(x, 0, 9, 1, 2, 3, 4, 5, 6);
        due.is("onward, over itself", x.copy(0, 1, 0, 0, 6), 6);
        due.is("as they were ahead", same(x, 0, 0, 1, 2, 3, 4, 5, 6), 1);
        due.is("back, over itself", x.copy(0, 0, 0, 1, 6), 6);
        due.is("as they were ahead", same(x, 0, 1, 1, 2, 3, 4, 5, 6), 1);
        x.row(1, 2, 8);
        due.is("to another", x.copy(0, 1, 1, 2, 6), 6);
        due.is("they came", same(x, 1, 2, 1, 2, 3, 4, 5, 6), 1);
        due.is("none at the end", x.copy(0, 7, 1, 8, 0), 0);
        due.is("the source stays", same(x, 0, 1, 1, 2, 3, 4, 5, 6), 1);
    }

    /** 1 if six items from i on are these: swapped, they are what the two dummies are. */
    private static int same(DummyInches x, int row, int i, int... six) {
        StringBuilder text = new StringBuilder("w2;");
        for (int dummy = 1; dummy >= 0; dummy--) {
            text.append("d").append(six[3 * dummy]).append(",").append(six[3 * dummy + 1]);
            text.append(",").append(six[3 * dummy + 2]).append(";");
        }
        Due.read(x, text.toString());
        return x.swaps(row, i, 0);
    }

    private static void copyFinds(Due due) {
        DummyInches x = new DummyInches();
        x.row(0, 0, 4);
        x.row(1, 1, 4);
        x.row(2, 0, 3);
        due.is("a -1", x.copy(-1, 0, 0, 0, 1), BAD);
        due.is("b 8", x.copy(0, 0, 8, 0, 1), BAD);
        due.is("bad ahead of null", x.copy(3, 0, 8, 0, 1), BAD);
        due.is("a missing", x.copy(3, 0, 0, 0, 1), NULL);
        due.is("b missing", x.copy(0, 0, 3, 0, 1), NULL);
        due.is("null ahead of place", x.copy(0, -1, 3, 0, 1), NULL);
        due.is("store", x.copy(0, 0, 1, 0, 1), STORE);
        due.is("store of none", x.copy(0, 0, 1, 0, 0), STORE);
        due.is("store ahead of place", x.copy(0, 9, 1, 0, 1), STORE);
        due.is("i -1", x.copy(0, -1, 2, 0, 1), PLACE);
        due.is("j -1", x.copy(0, 0, 2, -1, 1), PLACE);
        due.is("n -1", x.copy(0, 0, 2, 0, -1), PLACE);
        due.is("beyond b", x.copy(0, 0, 2, 0, 4), PLACE);
        due.is("beyond a", x.copy(2, 0, 0, 0, 4), PLACE);
        due.is("i beyond, none", x.copy(0, 5, 2, 0, 0), PLACE);
        due.is("most", x.copy(0, 1, 2, 1, MOST), PLACE);
        due.is("most i", x.copy(0, MOST, 2, MOST, MOST), PLACE);
        due.is("least", x.copy(0, LEAST, 2, 0, LEAST), PLACE);
        due.is("fits", x.copy(0, 1, 2, 0, 3), 3);
    }

    private static void rowIsDropped(Due due) {
        DummyInches x = new DummyInches();
        x.row(4, 1, 17);
        due.is("dropped", x.drop(4), 17);
        due.is("none", x.count(0), 0);
        due.is("again", x.drop(4), NULL);
        due.is("set", x.set(4, 0, 0), NULL);
        due.is("row 8", x.drop(8), BAD);
        due.is("row -1", x.drop(-1), BAD);
        x.row(4, 1, 0);
        due.is("dropped empty", x.drop(4), 0);
    }

    private static void statusTells(Due due) {
        DummyInches x = Due.street("w2;d1,1,1;v1;g1;");
        x.row(0, 0, 3);
        x.row(1, 1, 3);
        due.is("none", x.status(), 0);
        x.drop(5);
        due.is("null", x.status(), 1);
        x.set(0, 3, 0);
        due.is("place", x.status(), 2);
        x.set(8, 3, 0);
        due.is("place yet, behind BAD", x.status(), 2);
        x.as(0, 4);
        due.is("kind", x.status(), 3);
        x.row(0, 0, -1);
        due.is("size", x.status(), 4);
        x.as(2, 0);
        due.is("size yet", x.status(), 4);
        x.copy(0, 0, 1, 0, 1);
        due.is("store", x.status(), 5);
        x.tell(0, 0, 0, 1);
        x.dummy(0, 0, 0);
        due.is("store yet, behind calls with no row", x.status(), 5);
        x.as(0, 1);
        due.is("as", x.status(), 0);
        x.liars(0, 5, 0, 0);
        due.is("liars null", x.status(), 1);
        x.liars(0, 0, 0, 0);
        due.is("liars", x.status(), 0);
        x.blame(0, 0, 0, 1, 0);
        due.is("blame place", x.status(), 2);
        x.liars(0, 0, 0, 2);
        due.is("liars BAD", x.status(), 2);
        x.blame(0, 0, 0, 0, 0);
        due.is("blame", x.status(), 0);
        x.swaps(0, 1, 0);
        due.is("swaps place", x.status(), 2);
        x.swaps(0, 0, 0);
        due.is("swaps", x.status(), 0);
        x.drop(5);
        x.drop(0);
        due.is("drop", x.status(), 0);
        DummyInches y = new DummyInches();
        y.drop(0);
        due.is("STATE", y.swaps(0, 0, 0), DummyInches.STATE);
        due.is("null yet", y.status(), 1);
    }
}
