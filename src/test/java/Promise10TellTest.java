/** Promise 10: tell, with the tellings of part 2. */
public final class Promise10TellTest extends Promise {
    public static void main(String[] args) throws ReflectiveOperationException {
        new Promise10TellTest().run();
    }

    void mouthsAreThoseOfTheStreet() {
        DummyInches x = Made.street(Made.ALL);
        is("first", x.tell(0, 0, 0, 2), 42);
        is("last", x.tell(4, 0, 1, 2), 29);
        refused("mouth -1", Made::standing, y -> y.tell(-1, 0, 0, 1), BAD);
        refused("mouth 5", Made::standing, y -> y.tell(5, 0, 0, 1), BAD);
        refused("mouth least", Made::standing, y -> y.tell(LEAST, 0, 0, 1), BAD);
        refused("mouth most", Made::standing, y -> y.tell(MOST, 0, 0, 1), BAD);
        refused("no mouths", () -> Made.street("w2;d1,1,1;"), y -> y.tell(0, 0, 0, 1), BAD);
        refused("second of one", () -> Made.street("w2;d1,1,1;v1;"), y -> y.tell(1, 0, 0, 1), BAD);
    }

    void dummiesAreThoseOfTheStreet() {
        DummyInches x = Made.street(Made.ALL);
        is("last", x.tell(0, 2, 0, 2), 92);
        refused("dummy -1", Made::standing, y -> y.tell(0, -1, 0, 1), BAD);
        refused("dummy 3", Made::standing, y -> y.tell(0, 3, 0, 1), BAD);
        refused("dummy most", Made::standing, y -> y.tell(0, MOST, 0, 1), BAD);
        refused("no dummies", () -> Made.street("w2;v1;"), y -> y.tell(0, 0, 0, 1), BAD);
        DummyInches four = Made.street("w2;d1,1,1;d2,2,2;d3,3,3;d4,4,4;v1;");
        is("dummy 3 of four", four.tell(0, 3, 2, 1), 5);
        is("dummy 4 of four", four.tell(0, 4, 2, 1), BAD);
    }

    void placesAre0To2() {
        DummyInches x = Made.street(Made.ALL);
        is("first", x.tell(0, 1, 0, 1), 42);
        is("last", x.tell(0, 1, 2, 1), 23);
        refused("place -1", Made::standing, y -> y.tell(0, 0, -1, 1), BAD);
        refused("place 3", Made::standing, y -> y.tell(0, 0, 3, 1), BAD);
        refused("place most", Made::standing, y -> y.tell(0, 0, MOST, 1), BAD);
    }

    void tIsMinus99To99() {
        DummyInches x = Made.street(Made.ALL);
        is("99", x.tell(0, 0, 0, 99), 139);
        is("-99", x.tell(0, 0, 0, -99), 40);
        is("0", x.tell(0, 0, 0, 0), 40);
        is("lines", x.count(3), 3);
        refused("t 100", Made::standing, y -> y.tell(0, 0, 0, 100), BAD);
        refused("t -100", Made::standing, y -> y.tell(0, 0, 0, -100), BAD);
        refused("t most", Made::standing, y -> y.tell(0, 0, 0, MOST), BAD);
        refused("t least", Made::standing, y -> y.tell(0, 0, 0, LEAST), BAD);
    }

    void noStreetIsBad() {
        refused("no street", Made::bare, y -> y.tell(0, 0, 0, 0), BAD);
    }

    void inchesAreMoreByWhatItPads() {
        DummyInches x = Made.street(Made.ALL);
        is("valet", x.tell(0, 0, 0, -7), 33);
        is("cook", x.tell(1, 0, 0, 7), 47);
        is("rival", x.tell(2, 1, 2, 7), 15);
        is("gossip", x.tell(3, 1, 2, 7), 18);
        is("spy", x.tell(4, 1, 2, 99), -31);
        is("inches", x.dummy(1, 2, 0), -31);
        is("another place", x.dummy(1, 1, 0), 35);
        is("another dummy", x.dummy(2, 2, 0), 70);
    }

    void theCustomersAreMoreByT() {
        DummyInches x = Made.street(Made.ALL);
        x.tell(2, 1, 2, 7);
        x.tell(1, 1, 2, 10);
        x.tell(4, 1, 2, -5);
        is("customer", x.dummy(1, 2, 2), 34);
        is("made", x.dummy(1, 2, 1), 22);
        is("another place", x.dummy(1, 1, 2), 35);
        is("another dummy", x.dummy(0, 2, 2), 20);
    }

    private static DummyInches told(String text, int times, int t) {
        DummyInches x = Made.street(text);
        for (int n = 0; n < times; n++) {
            x.tell(0, 0, 0, t);
        }
        return x;
    }

    void inchesGoTo999() {
        String cook = "w2;d9,0,0;k0;";
        is("999", told(cook, 5, 99).tell(0, 0, 0, 0), 999);
        is("998 and 1", told("w2;d8,0,0;k0;v0;", 5, 99).tell(1, 0, 0, 1), 999);
        refused("999 and 2", () -> told(cook, 5, 99), x -> x.tell(0, 0, 0, 1), FULL);
        refused("999 and 1", () -> told("w2;d9,0,0;k0;v0;", 5, 99), x -> x.tell(1, 0, 0, 1), FULL);
        refused("999 and 198", () -> told(cook, 5, 99), x -> x.tell(0, 0, 0, 99), FULL);
        is("999 less 1", told(cook, 5, 99).tell(0, 0, 0, -1), 998);
    }

    void inchesGoToMinus999() {
        String cook = "w2;d0,0,0;k0;";
        DummyInches x = told(cook, 10, -99);
        is("-990", x.dummy(0, 0, 0), -990);
        is("-999", x.tell(0, 0, 0, -9), -999);
        refused("-1000", () -> told(cook, 10, -99), y -> y.tell(0, 0, 0, -10), FULL);
        refused("-999 less 1", Promise10TellTest::least, y -> y.tell(0, 0, 0, -1), FULL);
        is("-999 and 2", least().tell(0, 0, 0, 1), -997);
    }

    private static DummyInches least() {
        DummyInches x = told("w2;d0,0,0;k0;", 10, -99);
        x.tell(0, 0, 0, -9);
        return x;
    }

    /** What the rival adds to the customer the valet takes away: the inches alone go down. */
    private static DummyInches down(int pairs) {
        DummyInches x = Made.street("w2;d0,0,0;r0;v0;");
        for (int n = 0; n < pairs; n++) {
            x.tell(0, 0, 0, 99);
            x.tell(1, 0, 0, -99);
        }
        return x;
    }

    void inchesAloneGoToMinus999() {
        DummyInches x = down(5);
        is("the customer", x.dummy(0, 0, 2), 0);
        is("-999", x.tell(0, 0, 0, 9), -999);
        refused("-1000", () -> down(5), y -> y.tell(0, 0, 0, 10), FULL);
        refused("-1000 by the valet", () -> down(5), y -> y.tell(1, 0, 0, -10), FULL);
    }

    void inchesGoBeyondByARivalToo() {
        DummyInches x = told("w2;d0,0,0;r0;", 10, 99);
        is("-990", x.dummy(0, 0, 0), -990);
        is("-1000, and the customer 1000", x.tell(0, 0, 0, 10), FULL);
        is("-999, and the customer 999", x.tell(0, 0, 0, 9), -999);
        is("the customer", x.dummy(0, 0, 2), 999);
    }

    void theCustomersGoTo999() {
        String spy = "w2;d0,0,0;s0;";
        DummyInches x = told(spy, 10, 99);
        is("customer 990", x.dummy(0, 0, 2), 990);
        is("customer 999", x.tell(0, 0, 0, 9), -494);
        is("customer", x.dummy(0, 0, 2), 999);
        refused("customer 1000", () -> told(spy, 10, 99), y -> y.tell(0, 0, 0, 10), FULL);
    }

    void theCustomersGoToMinus999() {
        String gossip = "w2;d0,0,0;g0;";
        DummyInches x = told(gossip, 10, -99);
        is("customer -999", x.tell(0, 0, 0, -9), -494);
        is("customer", x.dummy(0, 0, 2), -999);
        refused("customer -1000", () -> told(gossip, 10, -99), y -> y.tell(0, 0, 0, -10), FULL);
    }

    void anotherPlaceHasRoomYet() {
        DummyInches x = told("w2;d9,9,9;d9,9,9;k0;", 5, 99);
        is("full", x.tell(0, 0, 0, 1), FULL);
        is("another place", x.tell(0, 0, 1, 1), 11);
        is("another dummy", x.tell(0, 1, 0, 1), 11);
    }

    void theLogHas16LinesAtMost() {
        DummyInches x = Made.street(Made.ALL);
        for (int n = 1; n <= 16; n++) {
            is("telling " + n, x.tell(0, 0, 0, 1), 40 + n);
            is("lines", x.count(3), n);
        }
        is("17th", x.tell(0, 0, 0, 1), FULL);
        refused("17th", Made::fullLog, y -> y.tell(0, 0, 0, 1), FULL);
        refused("17th of nothing", Made::fullLog, y -> y.tell(0, 0, 0, 0), FULL);
    }

    void badIsAheadOfFull() {
        refused("mouth", Made::fullLog, y -> y.tell(5, 0, 0, 1), BAD);
        refused("dummy", Made::fullLog, y -> y.tell(0, 3, 0, 1), BAD);
        refused("place", Made::fullLog, y -> y.tell(0, 0, 3, 1), BAD);
        refused("t", Made::fullLog, y -> y.tell(0, 0, 0, 100), BAD);
        refused("t, beyond 999", () -> told("w2;d9,0,0;k0;", 5, 99), y -> y.tell(0, 0, 0, 100), BAD);
    }

    void aClosedLogHasRoomAgain() {
        DummyInches x = Made.fullLog();
        x.close();
        int inches = x.dummy(1, 0, 0);
        for (int n = 1; n <= 16; n++) {
            is("telling " + n, x.tell(0, 1, 0, 1), inches + n);
        }
        is("17th", x.tell(0, 1, 0, 1), FULL);
    }

    void statusStays() {
        DummyInches x = Made.standing();
        x.drop(7);
        x.tell(0, 0, 0, 1);
        is("status", x.status(), 1);
    }
}
