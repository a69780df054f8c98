/** Promises 6 to 8: the tape, a street that is read, its faults. */
public final class TapeTest {
    private static final String FOUR = "d0,0,0;d0,0,0;d0,0,0;d0,0,0;";
    private static final String FIVE = "v1;k2;r3;g4;s5;";

    public static void main(String[] args) {
        Due due = new Due();
        tapeIsFed(due);
        streetIsRead(due);
        streetStandsInPlace(due);
        cannotStand(due);
        notAsTold(due);
        noRoom(due);
        faultChangesNothing(due);
        due.end();
    }

    private static void tapeIsFed(Due due) {
        DummyInches x = new DummyInches();
        due.is("feed -1", x.feed(-1), DummyInches.BAD);
        due.is("feed 256", x.feed(256), DummyInches.BAD);
        for (int i = 1; i <= 140; i++) {
            due.is("feed", x.feed(i % 2 == 0 ? 0 : 255), i);
            due.is("bytes", x.count(6), i);
        }
        due.is("full", x.feed(0), DummyInches.FULL);
        due.is("BAD ahead of FULL", x.feed(256), DummyInches.BAD);
        due.is("bytes", x.count(6), 140);
        due.is("read", x.street(), -1000100);
        due.is("empty", x.count(6), 0);
        due.is("first again", x.feed(0), 1);
    }

    private static void streetIsRead(Due due) {
        DummyInches x = new DummyInches();
        due.is("law alone", Due.read(x, "w2;"), 0);
        due.is("it stands", x.year(), 0);
        due.is("law of 20, with a nought", Due.read(x, "w20;"), 0);
        due.is("law 02", Due.read(x, "w02;"), 0);
        due.is("mouths alone", Due.read(x, "w2;" + FIVE), 0);
        due.is("five", x.count(2), 5);
        due.is("all there is room for", Due.read(x, "w2;" + FOUR + FIVE), 4);
        due.is("numbers", Due.read(x, "w3;d99,00,07;s99;"), 1);
        due.is("99", x.dummy(0, 0, 0), 99);
        due.is("00", x.dummy(0, 1, 0), 0);
        due.is("07", x.dummy(0, 2, 0), 7);
        due.is("made", x.dummy(0, 2, 1), 7);
        due.is("customer", x.dummy(0, 2, 2), 7);
        due.is("never a fault", x.fault(), 0);
    }

    private static void streetStandsInPlace(Due due) {
        DummyInches x = Due.street("w2;" + FOUR + FIVE);
        x.tell(0, 0, 0, 9);
        x.year();
        x.swap(0, 1);
        x.image(1);
        due.is("read anew", Due.read(x, "w4;d9,8,7;g3;"), 1);
        due.is("dummies", x.count(1), 1);
        due.is("mouths", x.count(2), 1);
        due.is("lines", x.count(3), 0);
        due.is("years", x.count(4), 0);
        due.is("acts", x.count(5), 0);
        due.is("undo", x.undo(), DummyInches.STATE);
        due.is("kind", x.kind(0), 4);
        due.is("inches", x.dummy(0, 1, 0), 8);
        due.is("image is kept", x.restore(1), 1);
        due.is("its dummies", x.count(1), 4);
    }

    private static void fault(Due due, String text, int number, int place) {
        DummyInches x = new DummyInches();
        due.is("read " + text, Due.read(x, text), -1000100 - place);
        due.is("fault " + text, x.fault(), number);
        due.is("tape " + text, x.count(6), 0);
        due.is("no street " + text, x.year(), DummyInches.STATE);
    }

    private static void cannotStand(Due due) {
        fault(due, "", 1, 0);
        fault(due, "w", 1, 1);
        fault(due, "w2", 1, 2);
        fault(due, "W2;", 1, 0);
        fault(due, "2;", 1, 0);
        fault(due, "w;", 1, 1);
        fault(due, "w123;", 1, 1);
        fault(due, "w1234567;", 1, 1);
        fault(due, "w002;", 1, 1);
        fault(due, "w2,", 1, 2);
        fault(due, "w2; ", 1, 3);
        fault(due, "w2;w3;", 1, 3);
        fault(due, "w2;d1,2,3;w3;", 1, 10);
        fault(due, "w2;d,2,3;", 1, 4);
        fault(due, "w2;d1;2;3;", 1, 5);
        fault(due, "w2;d1,2,3,4;", 1, 9);
        fault(due, "w2;d1,2,333;", 1, 8);
        fault(due, "w2;d1,2,", 1, 8);
        fault(due, "w2;d1,2,3", 1, 9);
        fault(due, "w2;d1,2,3;x1;", 1, 10);
        fault(due, "w2;d1,2,3;;", 1, 10);
        fault(due, "w2;v1;d1,2,3;", 1, 6);
        fault(due, "w2;v", 1, 4);
        fault(due, "w2;v1", 1, 5);
        fault(due, "w2;v1,", 1, 5);
        fault(due, "w2;v100;", 1, 4);
        fault(due, "w2;vv1;", 1, 4);
        fault(due, "w2;v-1;", 1, 4);
        fault(due, "w2;v1;5", 1, 6);
        fault(due, "w2;" + FIVE + "d1,2,3;", 1, 18);
        fault(due, "w2;" + FOUR + "x", 1, 31);
        fault(due, "w2;" + FIVE + "x1;", 1, 18);
    }

    private static void notAsTold(Due due) {
        fault(due, "w0;", 2, 1);
        fault(due, "w1;", 2, 1);
        fault(due, "w01;", 2, 1);
        fault(due, "w21;", 2, 1);
        fault(due, "w99;", 2, 1);
        fault(due, "w1", 2, 1);
        fault(due, "w1x;", 2, 1);
    }

    private static void noRoom(Due due) {
        fault(due, "w2;" + FOUR + "d1,2,3;", 3, 31);
        fault(due, "w2;" + FOUR + "d", 3, 31);
        fault(due, "w2;" + FIVE + "v1;", 3, 18);
        fault(due, "w2;" + FIVE + "s", 3, 18);
        fault(due, "w2;" + FOUR + FIVE + "k", 3, 46);
    }

    private static void faultChangesNothing(Due due) {
        DummyInches x = Due.street("w2;d5,5,5;v1;");
        x.tell(0, 0, 0, 4);
        due.is("faulted", Due.read(x, "w3;d1,1,1;d2,2,2;k5;q"), -1000120);
        due.is("fault", x.fault(), 1);
        due.is("dummies", x.count(1), 1);
        due.is("kind", x.kind(0), 1);
        due.is("lines", x.count(3), 1);
        due.is("inches", x.dummy(0, 0, 0), 9);
        due.is("year by 2 yet", x.year(), 2);
        due.is("acts", x.count(5), 2);
        due.is("another fault", Due.read(x, "w1;"), -1000101);
        due.is("the latest", x.fault(), 2);
        due.is("a good one", Due.read(x, "w2;"), 0);
        due.is("the latest yet", x.fault(), 2);
    }
}
