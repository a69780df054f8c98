/** Promises 18 to 29: what is foretold, and images. */
public final class ForetoldTest {
    private static final int NONE = DummyInches.NONE, BAD = DummyInches.BAD, STATE = DummyInches.STATE;
    private static final int NULL = -1000011, PLACE = -1000012;

    public static void main(String[] args) {
        Due due = new Due();
        liarsFit(due);
        liarsAreFewest(due);
        liarsAreRefused(due);
        mouthsAreBlamed(due);
        itIsRight(due);
        nobodyIsRight(due);
        cheapestTellsLeast(due);
        whoPaddedMost(due);
        swapsAreSeen(due);
        swapsAreRefused(due);
        itIsLent(due);
        spinesAreParted(due);
        inchesAddUp(due);
        feltIsCut(due);
        twinsArePaired(due);
        imagesAreKept(due);
        due.end();
    }

    private static void liarsFit(Due due) {
        DummyInches x = Due.street("w2;d50,50,50;d9,9,9;v0;k0;r0;");
        x.tell(1, 0, 0, 6);
        x.tell(2, 0, 0, 5);
        x.tell(2, 0, 1, 2);
        x.tell(2, 1, 1, 7);
        x.year();
        x.swap(0, 1);
        Due.lay(x, 0, 0, 0, 0, -6, 0, 0, 10, 4, 0, 4, 4, 0, 1, 0, 0);
        due.is("nobody, or the valet", x.liars(0, 0, 0, 0), 2);
        due.is("nobody", x.liars(0, 0, 0, 1), 0);
        due.is("the cook", x.liars(0, 0, 3, 1), 2);
        due.is("the rival", x.liars(0, 0, 6, 1), 4);
        due.is("both", x.liars(0, 0, 9, 1), 6);
        due.is("or with the valet", x.liars(0, 0, 9, 0), 2);
        due.is("no set", x.liars(0, 0, 12, 0), 0);
        due.is("which", x.liars(0, 0, 12, 1), NONE);
        DummyInches y = Due.street("w2;d1,1,1;");
        Due.lay(y, 0, 0, 0, 0, 1);
        due.is("the empty set", y.liars(0, 0, 0, 0), 1);
        due.is("which", y.liars(0, 0, 0, 1), 0);
        due.is("no set", y.liars(0, 0, 1, 0), 0);
    }

    private static void liarsAreFewest(Due due) {
        DummyInches x = Due.street("w2;d50,50,50;r0;r0;r0;r0;r0;");
        x.tell(0, 0, 0, 1);
        x.tell(1, 0, 0, 1);
        x.tell(2, 0, 0, 2);
        x.tell(3, 0, 0, 2);
        x.tell(4, 0, 0, 6);
        Due.lay(x, 0, 4, 0, 0, 24, 0, 0);
        due.is("two of one, or one of two", x.liars(0, 0, 0, 0), 3);
        due.is("one, the least", x.liars(0, 0, 0, 1), 4);
        due.is("all five", x.liars(0, 0, 3, 0), 1);
        due.is("all five", x.liars(0, 0, 3, 1), 31);
        due.is("the last is to blame", x.blame(0, 4, 0, 3, 0), 1);
        x.tell(4, 0, 0, -6);
        due.is("twice as many", x.liars(0, 0, 0, 0), 6);
        due.is("the least yet", x.liars(0, 0, 0, 1), 4);
    }

    private static void liarsAreRefused(Due due) {
        DummyInches x = Due.street("w2;d50,50,50;r0;");
        x.row(0, 0, 4);
        due.is("dummy", x.liars(1, 0, 0, 0), BAD);
        due.is("row", x.liars(0, 8, 0, 0), BAD);
        due.is("what", x.liars(0, 0, 0, 2), BAD);
        due.is("what -1", x.liars(0, 0, 0, -1), BAD);
        due.is("null", x.liars(0, 1, 0, 0), NULL);
        due.is("place -1", x.liars(0, 0, -1, 0), PLACE);
        due.is("place 2", x.liars(0, 0, 2, 0), PLACE);
        due.is("place most", x.liars(0, 0, Integer.MAX_VALUE, 0), PLACE);
        due.is("place 1", x.liars(0, 0, 1, 0), 2);
        due.is("blame dummy", x.blame(1, 0, 0, 0, 0), BAD);
        due.is("blame mouth", x.blame(0, 1, 0, 0, 0), BAD);
        due.is("blame mouth -1", x.blame(0, -1, 0, 0, 0), BAD);
        due.is("blame row", x.blame(0, 0, -1, 0, 0), BAD);
        due.is("blame what", x.blame(0, 0, 0, 0, 2), BAD);
        due.is("blame null", x.blame(0, 0, 1, 0, 0), NULL);
        due.is("blame place", x.blame(0, 0, 0, 2, 0), PLACE);
    }

    private static void blameIs(Due due, DummyInches x, int mouth, int i, int above, int below) {
        due.is("blame above " + mouth, x.blame(0, mouth, 0, i, 0), above);
        due.is("blame below " + mouth, x.blame(0, mouth, 0, i, 1), below);
    }

    private static void mouthsAreBlamed(Due due) {
        DummyInches x = Due.street("w2;d50,50,50;r0;r0;r0;r0;v0;");
        x.tell(0, 0, 0, 1);
        x.tell(1, 0, 0, 1);
        x.tell(2, 0, 0, 2);
        x.tell(3, 0, 0, 9);
        Due.lay(x, 0, 4, 0, 0, 1, 0, 0, 2, 0, 0);
        blameIs(due, x, 0, 0, 1, 2);
        blameIs(due, x, 2, 0, 1, 2);
        blameIs(due, x, 3, 0, 0, 1);
        blameIs(due, x, 4, 0, 1, 2);
        blameIs(due, x, 0, 3, NONE, NONE);
        blameIs(due, x, 0, 6, 1, 2);
        blameIs(due, x, 2, 6, 0, 1);
        DummyInches y = Due.street("w2;d50,50,50;r0;r0;r0;");
        y.tell(0, 0, 0, 1);
        y.tell(1, 0, 0, 1);
        y.tell(2, 0, 0, 1);
        Due.lay(y, 0, 2, 0, 0, 4, 0, 0, 6, 0, 0);
        blameIs(due, y, 0, 0, 1, 3);
        blameIs(due, y, 1, 3, 2, 3);
        blameIs(due, y, 2, 6, 1, 1);
    }

    private static void rightIs(Due due, DummyInches x, int... want) {
        for (int what = 0; what <= 6; what++) {
            due.is("right " + what, x.right(0, what), want[what]);
        }
        due.is("right 7", x.right(0, 7), BAD);
        due.is("right -1", x.right(0, -1), BAD);
    }

    private static void itIsRight(Due due) {
        DummyInches x = Due.street("w2;d50,50,50;d50,50,50;r7;v8;");
        due.is("dummy", x.right(2, 0), BAD);
        rightIs(due, x, 0, NONE, NONE, NONE, NONE, NONE, NONE);
        x.tell(0, 0, 0, 4);
        x.tell(0, 0, 2, -5);
        rightIs(due, x, 14, 0, NONE, 0, -8, NONE, 10);
        due.is("nothing changes", x.count(3), 2);
    }

    private static void nobodyIsRight(Due due) {
        DummyInches x = Due.street("w2;d50,50,50;k1;g2;");
        x.tell(1, 0, 0, 6);
        due.is("pinches by 3", x.dummy(0, 0, 3), 3);
        rightIs(due, x, 2, 1, NONE, NONE, 6, NONE, NONE);
        x.tell(1, 0, 1, 99);
        due.is("pinches by 50", x.dummy(0, 1, 3), 50);
        rightIs(due, x, 3, 1, 0, NONE, 6, 25, NONE);
        x.tell(1, 0, 1, 1);
        due.is("pinches by 51: odd, beyond half of 99", x.dummy(0, 1, 3), 51);
        rightIs(due, x, NONE, NONE, NONE, NONE, NONE, NONE, NONE);
    }

    private static void cheapestTellsLeast(Due due) {
        DummyInches x = Due.street("w2;d50,50,50;v3;g2;s2;k9;");
        x.tell(3, 0, 0, 2);
        rightIs(due, x, 2, 1, NONE, NONE, -5, NONE, NONE);
        x.tell(1, 0, 1, 2);
        rightIs(due, x, 4, 1, 1, NONE, -5, 2, NONE);
        DummyInches y = Due.street("w2;d50,50,50;s1;k0;");
        y.tell(1, 0, 0, 2);
        rightIs(due, y, 0, 1, NONE, NONE, -2, NONE, NONE);
        y.tell(0, 0, 1, 2);
        rightIs(due, y, 1, 1, 0, NONE, -2, -7, NONE);
        DummyInches z = Due.street("w2;d50,50,50;g0;k1;");
        z.tell(1, 0, 0, 49);
        rightIs(due, z, 0, 0, NONE, NONE, -99, NONE, NONE);
        z.tell(1, 0, 0, 1);
        rightIs(due, z, 1, 1, NONE, NONE, -50, NONE, NONE);
    }

    private static void whoPaddedMost(Due due) {
        DummyInches x = Due.street("w2;d50,50,50;d50,50,50;v1;r1;k1;g1;");
        due.is("no telling", x.most(0, 0, 0), NONE);
        due.is("no telling", x.most(0, 0, 1), NONE);
        x.tell(0, 0, 0, 5);
        x.tell(1, 0, 0, 5);
        due.is("the first of two", x.most(0, 0, 0), 0);
        due.is("with its sign", x.most(0, 0, 1), 5);
        x.tell(1, 0, 0, 1);
        due.is("without signs", x.most(0, 0, 0), 1);
        due.is("with its sign", x.most(0, 0, 1), -6);
        x.tell(1, 0, 0, -4);
        due.is("all together", x.most(0, 0, 0), 0);
        x.tell(2, 0, 1, 50);
        x.tell(2, 1, 0, 50);
        x.swap(0, 1);
        x.year();
        due.is("tellings alone", x.most(0, 0, 1), 5);
        due.is("another place", x.most(0, 1, 1), 100);
        due.is("another dummy", x.most(1, 0, 1), 100);
        x.tell(3, 1, 2, 1);
        due.is("by nothing, but told", x.most(1, 2, 0), 3);
        due.is("by nothing", x.most(1, 2, 1), 0);
        due.is("dummy", x.most(2, 0, 0), BAD);
        due.is("place", x.most(0, 3, 0), BAD);
        due.is("what", x.most(0, 0, 2), BAD);
        due.is("what -1", x.most(0, 0, -1), BAD);
    }

    private static void swapsAreSeen(Due due) {
        DummyInches x = Due.street("w2;d1,2,3;d4,5,6;d1,2,3;d1,2,3;v0;");
        Due.lay(x, 0, 9, 1, 2, 3, 4, 5, 6, 1, 2, 3, 1, 2, 3);
        due.is("like ones swapped", x.swaps(0, 1, 0), 3);
        due.is("0 and 2", x.swaps(0, 1, 1), 2);
        Due.lay(x, 0, 1, 2, 3, 1, 2, 3, 1, 2, 3, 4, 5, 6);
        due.is("one", x.swaps(0, 0, 0), 1);
        due.is("1 and 3", x.swaps(0, 0, 1), 7);
        Due.lay(x, 0, 1, 2, 3, 1, 2, 3, 1, 2, 3, 4, 5, 7);
        due.is("none", x.swaps(0, 0, 0), 0);
        due.is("none", x.swaps(0, 0, 1), NONE);
        DummyInches y = Due.street("w2;d1,2,3;");
        Due.lay(y, 0, 1, 2, 3);
        due.is("one dummy", y.swaps(0, 0, 0), 0);
        due.is("one dummy", y.swaps(0, 0, 1), NONE);
        Due.read(y, "w2;");
        due.is("no dummy", y.swaps(0, 3, 0), 0);
        due.is("beyond", y.swaps(0, 4, 0), PLACE);
    }

    private static void swapsAreRefused(Due due) {
        DummyInches x = new DummyInches();
        due.is("STATE ahead of BAD", x.swaps(8, 0, 0), STATE);
        Due.read(x, "w2;d1,2,3;d4,5,6;");
        x.row(0, 0, 6);
        due.is("row", x.swaps(8, 0, 0), BAD);
        due.is("what", x.swaps(0, 0, 2), BAD);
        due.is("null", x.swaps(1, 0, 0), NULL);
        due.is("place", x.swaps(0, 1, 0), PLACE);
        due.is("place -1", x.swaps(0, -1, 0), PLACE);
        due.is("as it is", x.swaps(0, 0, 0), 0);
    }

    private static void itIsLent(Due due) {
        DummyInches x = new DummyInches();
        due.is("STATE ahead of BAD", x.lent(2, 0), STATE);
        Due.read(x, "w2;d1,2,3;d4,5,6;d7,8,9;d7,8,9;v0;");
        due.is("none was kept", x.lent(1, 0), STATE);
        x.image(1);
        due.is("image 2", x.lent(2, 0), BAD);
        due.is("image -1", x.lent(-1, 0), BAD);
        due.is("what", x.lent(1, 2), BAD);
        due.is("what ahead of none kept", x.lent(0, 2), BAD);
        due.is("none was kept", x.lent(0, 0), STATE);
        due.is("alike", x.lent(1, 0), 0);
        due.is("alike", x.lent(1, 1), 0);
        x.tell(0, 0, 1, -9);
        x.tell(0, 3, 2, 5);
        due.is("places", x.lent(1, 0), 2 | 1 << 11);
        due.is("how much", x.lent(1, 1), 14);
        x.close();
        x.swap(2, 3);
        due.is("places 8 and 1", x.lent(1, 0), 2 | 1 << 8);
        Due.read(x, "w2;d1,2,3;");
        due.is("fewer", x.lent(1, 0), STATE);
        due.is("fewer, BAD", x.lent(1, 2), BAD);
        x.image(0);
        Due.read(x, "w9;d1,2,5;s3;");
        due.is("as many", x.lent(0, 1), 2);
    }

    private static void spinesAreParted(Due due) {
        DummyInches x = Due.street("w2;v0;k0;r0;g0;s0;");
        due.is("all", x.parted(0, 2, 0, 0), 41);
        due.is("first", x.parted(0, 2, 0, 1), -20);
        due.is("40", x.parted(0, 2, 40, 0), 1);
        due.is("first", x.parted(0, 2, 40, 1), 20);
        due.is("41", x.parted(0, 2, 41, 0), 0);
        due.is("first", x.parted(0, 2, 41, 1), NONE);
        due.is("cook and valet, 60", x.parted(1, 0, 60, 1), 20);
        due.is("cook and valet, 59", x.parted(1, 0, 59, 0), 1);
        due.is("gossips cut", x.parted(3, 4, 20, 0), 1);
        due.is("first", x.parted(3, 4, 20, 1), 20);
        due.is("19", x.parted(3, 4, 19, 0), 4);
        due.is("first", x.parted(3, 4, 19, 1), 18);
        due.is("sum 200", x.parted(0, 1, 200, 0), 0);
        due.is("sum -200", x.parted(0, 1, -200, 1), NONE);
        due.is("sum 201", x.parted(0, 1, 201, 0), BAD);
        due.is("sum -201", x.parted(0, 1, -201, 0), BAD);
        due.is("alike", x.parted(1, 1, 0, 0), BAD);
        due.is("mouth", x.parted(0, 5, 0, 0), BAD);
        due.is("mouth", x.parted(-1, 0, 0, 0), BAD);
        due.is("what", x.parted(0, 1, 0, 2), BAD);
    }

    private static void addedUpIs(Due due, DummyInches x, int s, int howMany, int which) {
        due.is("added up " + s, x.addedUp(0, s, 0), howMany);
        due.is("added up by " + s, x.addedUp(0, s, 1), which);
    }

    private static void inchesAddUp(Due due) {
        DummyInches x = Due.street("w2;d10,90,50;v0;");
        addedUpIs(due, x, 150, 0, 0);
        addedUpIs(due, x, 239, 1, 1);
        addedUpIs(due, x, 140, 1, 1);
        addedUpIs(due, x, 139, 1, 2);
        addedUpIs(due, x, 60, 1, 2);
        addedUpIs(due, x, 59, 2, 3);
        addedUpIs(due, x, 50, 2, 3);
        addedUpIs(due, x, 49, 2, 6);
        addedUpIs(due, x, 10, 2, 6);
        addedUpIs(due, x, 9, 3, 7);
        addedUpIs(due, x, 0, 3, 7);
        addedUpIs(due, x, 240, 2, 3);
        addedUpIs(due, x, 248, 2, 3);
        addedUpIs(due, x, 249, 2, 5);
        addedUpIs(due, x, 288, 2, 5);
        addedUpIs(due, x, 289, 3, 7);
        addedUpIs(due, x, 297, 3, 7);
        due.is("298", x.addedUp(0, 298, 0), BAD);
        due.is("-1", x.addedUp(0, -1, 0), BAD);
        due.is("dummy", x.addedUp(1, 0, 0), BAD);
        due.is("what", x.addedUp(0, 0, 2), BAD);
        x.tell(0, 0, 0, -60);
        addedUpIs(due, x, 90, 0, 0);
        addedUpIs(due, x, 89, 1, 2);
        addedUpIs(due, x, 91, 1, 2);
        addedUpIs(due, x, 100, 1, 4);
        addedUpIs(due, x, 140, 1, 1);
    }

    private static void feltIs(Due due, DummyInches x, int b, int bolts, int waste) {
        due.is("felt " + b, x.felt(0, b, 0), bolts);
        due.is("waste " + b, x.felt(0, b, 1), waste);
    }

    private static void feltIsCut(Due due) {
        DummyInches x = new DummyInches();
        due.is("STATE ahead of BAD", x.felt(3, 0, 9), STATE);
        Due.read(x, "w2;d60,0,1;d50,0,1;d40,0,1;d30,0,1;v0;");
        feltIs(due, x, 59, NONE, NONE);
        feltIs(due, x, 60, 4, 60);
        feltIs(due, x, 70, 3, 30);
        feltIs(due, x, 89, 3, 87);
        feltIs(due, x, 90, 2, 0);
        feltIs(due, x, 179, 2, 178);
        feltIs(due, x, 180, 1, 0);
        feltIs(due, x, 200, 1, 20);
        due.is("no strips", x.felt(1, 1, 0), 0);
        due.is("no strips, no waste", x.felt(1, 1, 1), 0);
        due.is("ones", x.felt(2, 1, 0), 4);
        due.is("place", x.felt(3, 1, 0), BAD);
        due.is("place -1", x.felt(-1, 1, 0), BAD);
        due.is("b 0", x.felt(0, 0, 0), BAD);
        due.is("b 201", x.felt(0, 201, 0), BAD);
        due.is("what", x.felt(0, 1, 2), BAD);
        x.tell(0, 0, 0, -70);
        feltIs(due, x, 50, 3, 30);
        feltIs(due, x, 80, 2, 40);
        Due.read(x, "w2;");
        feltIs(due, x, 50, 0, 0);
    }

    private static void twinsAre(Due due, DummyInches x, int much, int... partners) {
        due.is("twins", x.twins(-1), much);
        for (int dummy = 0; dummy < partners.length; dummy++) {
            due.is("twin of " + dummy, x.twins(dummy), partners[dummy]);
        }
        due.is("no such dummy", x.twins(partners.length), BAD);
        due.is("twins -2", x.twins(-2), BAD);
    }

    private static void twinsArePaired(Due due) {
        DummyInches x = new DummyInches();
        due.is("STATE ahead of BAD", x.twins(9), STATE);
        Due.read(x, "w2;");
        twinsAre(due, x, 0);
        Due.read(x, "w2;d1,2,3;");
        twinsAre(due, x, 0, NONE);
        Due.read(x, "w2;d1,2,3;d3,0,4;");
        twinsAre(due, x, 5, 1, 0);
        Due.read(x, "w2;d90,0,0;d1,0,0;d2,0,0;");
        twinsAre(due, x, 1, NONE, 2, 1);
        Due.read(x, "w2;d1,0,0;d90,0,0;d2,0,0;");
        twinsAre(due, x, 1, 2, NONE, 0);
        Due.read(x, "w2;d1,0,0;d1,0,0;d1,0,0;");
        twinsAre(due, x, 0, 1, 0, NONE);
        Due.read(x, "w2;d2,0,0;d1,0,0;d3,0,0;");
        twinsAre(due, x, 1, 1, 0, NONE);
        Due.read(x, "w2;d2,0,0;d9,0,0;d3,0,0;d9,9,0;");
        twinsAre(due, x, 10, 2, 3, 0, 1);
        Due.read(x, "w2;d2,0,0;d9,0,0;d9,0,0;d2,0,9;");
        twinsAre(due, x, 9, 3, 2, 1, 0);
        Due.read(x, "w2;d1,1,1;d1,1,1;d1,1,1;d1,1,1;v0;");
        twinsAre(due, x, 0, 1, 0, 3, 2);
        x.tell(0, 0, 0, -50);
        x.tell(0, 2, 0, -50);
        twinsAre(due, x, 0, 2, 3, 0, 1);
    }

    private static void imagesAreKept(Due due) {
        DummyInches x = new DummyInches();
        due.is("BAD ahead of STATE", x.image(2), BAD);
        due.is("no street", x.image(1), STATE);
        due.is("restore 2", x.restore(2), BAD);
        due.is("restore -1", x.restore(-1), BAD);
        Due.read(x, "w2;d10,10,10;k3;");
        x.tell(0, 0, 0, 10);
        due.is("none was kept", x.restore(0), STATE);
        due.is("still an act", x.count(5), 1);
        due.is("kept", x.image(0), 1);
        x.year();
        x.close();
        due.is("kept", x.image(1), 1);
        Due.read(x, "w9;d1,1,1;d2,2,2;v1;s2;");
        x.swap(0, 1);
        Due.lay(x, 3, 4, 4);
        x.feed('w');
        due.is("restored", x.restore(0), 1);
        due.is("dummies", x.count(1), 1);
        due.is("mouths", x.count(2), 1);
        due.is("lines", x.count(3), 1);
        due.is("no act", x.count(5), 0);
        due.is("nothing to undo", x.undo(), STATE);
        due.is("the tape stays", x.count(6), 1);
        due.is("the rows stay", x.count(0), 1);
        due.is("inches", x.dummy(0, 0, 0), 30);
        due.is("customer", x.dummy(0, 0, 2), 20);
        due.is("line", x.line(0, 5), 20);
        due.is("kind", x.kind(0), 2);
        due.is("shrinks by 2", x.year(), 10);
        due.is("the other one", x.restore(1), 1);
        due.is("made", x.dummy(0, 0, 1), 20);
        due.is("the first one is as it was kept", x.restore(0), 1);
        due.is("inches", x.dummy(0, 0, 0), 30);
        due.is("kept anew", x.year(), 10);
        x.image(0);
        x.restore(1);
        x.restore(0);
        due.is("as kept anew", x.count(4), 1);
    }
}
