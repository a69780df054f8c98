/** Promises 9 to 17: tellings, years, swaps, the log, acts undone, what was. */
public final class DoingTest {
    private static final int NONE = DummyInches.NONE, BAD = DummyInches.BAD;
    private static final int STATE = DummyInches.STATE, FULL = DummyInches.FULL;
    private static final String ALL = "w4;d40,30,20;d41,35,22;d90,80,70;v5;k3;r9;g1;s0;";

    public static void main(String[] args) {
        Due due = new Due();
        mouthsPad(due);
        tellingIsTold(due);
        tellingIsRefused(due);
        yearShrinks(due);
        dummiesAreSwapped(due);
        logIsClosed(due);
        dummyTells(due);
        lineTells(due);
        itWas(due);
        actsAreUndone(due);
        oldestActIsForgotten(due);
        refusedIsNoAct(due);
        due.end();
    }

    private static void mouthsPad(Due due) {
        DummyInches x = Due.street(ALL);
        int[] told = {-99, -98, -3, -2, -1, 0, 1, 2, 3, 98, 99};
        int[][] padded = {
            {-99, -98, -3, -2, -1, 0, 1, 2, 3, 98, 99},
            {-99, -98, -3, -2, -1, 0, 2, 4, 6, 196, 198},
            {99, 98, 3, 2, 1, 0, -1, -2, -3, -98, -99},
            {-49, -49, -1, -1, 0, 0, 0, 1, 1, 49, 49},
            {49, 49, 1, 1, 0, 0, 0, -1, -1, -49, -49},
        };
        for (int mouth = 0; mouth < 5; mouth++) {
            for (int k = 0; k < told.length; k++) {
                due.is("pads " + mouth + " " + told[k], x.pads(mouth, told[k]), padded[mouth][k]);
            }
        }
        due.is("t 100", x.pads(0, 100), BAD);
        due.is("t -100", x.pads(0, -100), BAD);
        due.is("mouth 5", x.pads(5, 0), BAD);
        due.is("mouth -1", x.pads(-1, 0), BAD);
    }

    private static void tellingIsTold(Due due) {
        DummyInches x = Due.street(ALL);
        due.is("valet", x.tell(0, 0, 0, -7), 33);
        due.is("cook", x.tell(1, 0, 0, 7), 47);
        due.is("rival", x.tell(2, 1, 2, 7), 15);
        due.is("gossip", x.tell(3, 1, 2, 7), 18);
        due.is("spy", x.tell(4, 1, 2, 99), -31);
        due.is("customer", x.dummy(1, 2, 2), 135);
        due.is("pinches", x.dummy(1, 2, 3), 166);
        due.is("made", x.dummy(1, 2, 1), 22);
        due.is("lines", x.count(3), 5);
    }

    private static void tellingIsRefused(Due due) {
        DummyInches x = Due.street("w2;d99,0,0;k0;r0;s0;");
        due.is("mouth", x.tell(3, 0, 0, 1), BAD);
        due.is("mouth -1", x.tell(-1, 0, 0, 1), BAD);
        due.is("dummy", x.tell(0, 1, 0, 1), BAD);
        due.is("place", x.tell(0, 0, 3, 1), BAD);
        due.is("place -1", x.tell(0, 0, -1, 1), BAD);
        due.is("t 100", x.tell(0, 0, 0, 100), BAD);
        due.is("t -100", x.tell(0, 0, 0, -100), BAD);
        for (int n = 1; n <= 4; n++) {
            due.is("more", x.tell(0, 0, 0, 99), 99 + 198 * n);
        }
        due.is("just 999", x.tell(0, 0, 0, 54), 999);
        due.is("1001", x.tell(0, 0, 0, 1), FULL);
        due.is("no telling", x.count(3), 5);
        for (int n = 1; n <= 10; n++) {
            due.is("less", x.tell(0, 0, 1, -99), -99 * n);
        }
        due.is("-1000", x.tell(0, 0, 1, -10), FULL);
        due.is("-999", x.tell(0, 0, 1, -9), -999);
        due.is("16 lines", x.tell(0, 0, 2, 0), FULL);
        due.is("BAD ahead of FULL", x.tell(0, 0, 3, 0), BAD);
        customerIsFull(due);
    }

    private static void customerIsFull(Due due) {
        DummyInches x = Due.street("w2;d0,0,0;s0;");
        for (int n = 1; n <= 10; n++) {
            due.is("spied", x.tell(0, 0, 0, 99), -49 * n);
        }
        due.is("customer", x.dummy(0, 0, 2), 990);
        due.is("customer 1000", x.tell(0, 0, 0, 10), FULL);
        due.is("customer 999", x.tell(0, 0, 0, 9), -494);
        DummyInches y = Due.street("w2;d0,0,0;g0;");
        for (int n = 1; n <= 10; n++) {
            y.tell(0, 0, 0, -99);
        }
        due.is("customer -1000", y.tell(0, 0, 0, -10), FULL);
        due.is("customer -999", y.tell(0, 0, 0, -9), -494);
    }

    private static void yearShrinks(Due due) {
        DummyInches x = Due.street("w4;d10,10,10;d0,0,50;v0;");
        due.is("no more", x.year(), 0);
        x.tell(0, 0, 0, 11);
        x.tell(0, 0, 1, -11);
        x.tell(0, 1, 0, 3);
        x.tell(0, 1, 1, 4);
        due.is("2 and 1", x.year(), 3);
        due.is("11 by 4", x.dummy(0, 0, 0), 19);
        due.is("less stays", x.dummy(0, 1, 0), -1);
        due.is("3 by 4", x.dummy(1, 0, 0), 3);
        due.is("4 by 4", x.dummy(1, 1, 0), 3);
        due.is("the customer stays", x.dummy(0, 0, 2), 21);
        due.is("9 by 4", x.year(), 2);
        due.is("years", x.count(4), 3);
        due.is("swap", x.swap(0, 1), 8);
        due.is("50 by 4, more than 10 as made; 17 and nothing else", x.year(), 14);
        due.is("dummy 0", x.dummy(0, 2, 0), 40);
        due.is("dummy 1", x.dummy(1, 0, 0), 13);
        for (int n = x.count(3); n < 16; n++) {
            x.year();
        }
        due.is("16 lines", x.year(), FULL);
        due.is("no street", new DummyInches().year(), STATE);
    }

    private static void dummiesAreSwapped(Due due) {
        DummyInches x = Due.street(ALL);
        x.tell(0, 2, 0, 5);
        due.is("swap", x.swap(2, 0), 2);
        due.is("0 has", x.dummy(0, 0, 0), 95);
        due.is("0 made", x.dummy(0, 0, 1), 40);
        due.is("0 customer", x.dummy(0, 0, 2), 40);
        due.is("0 pinches", x.dummy(0, 0, 3), -55);
        due.is("2 has", x.dummy(2, 2, 0), 20);
        due.is("2 customer", x.dummy(2, 0, 2), 95);
        due.is("1 has", x.dummy(1, 1, 0), 35);
        due.is("alike", x.swap(1, 1), BAD);
        due.is("3", x.swap(1, 3), BAD);
        due.is("-1", x.swap(-1, 1), BAD);
        due.is("no street", new DummyInches().swap(0, 1), BAD);
        for (int n = 3; n <= 16; n++) {
            due.is("lines", x.swap(0, 1), n);
        }
        due.is("full", x.swap(0, 1), FULL);
        due.is("BAD ahead of FULL", x.swap(0, 0), BAD);
    }

    private static void logIsClosed(Due due) {
        DummyInches x = Due.street(ALL);
        x.tell(2, 0, 0, 9);
        x.swap(0, 1);
        x.year();
        due.is("closed", x.close(), 3);
        due.is("lines", x.count(3), 0);
        due.is("years", x.count(4), 0);
        due.is("acts", x.count(5), 4);
        due.is("made", x.dummy(1, 0, 1), 31);
        due.is("customer", x.dummy(1, 0, 2), 31);
        due.is("pinches", x.dummy(1, 0, 3), 0);
        due.is("empty", x.close(), 0);
        due.is("an act, too", x.count(5), 5);
        due.is("no street", new DummyInches().close(), STATE);
    }

    private static void dummyTells(Due due) {
        DummyInches x = Due.street(ALL);
        x.tell(1, 1, 1, 10);
        due.is("inches", x.dummy(1, 1, 0), 55);
        due.is("made", x.dummy(1, 1, 1), 35);
        due.is("customer", x.dummy(1, 1, 2), 45);
        due.is("pinches", x.dummy(1, 1, 3), -10);
        due.is("what 4", x.dummy(1, 1, 4), BAD);
        due.is("what -1", x.dummy(1, 1, -1), BAD);
        due.is("place 3", x.dummy(1, 3, 0), BAD);
        due.is("place -1", x.dummy(1, -1, 0), BAD);
        due.is("dummy 3", x.dummy(3, 0, 0), BAD);
        due.is("dummy -1", x.dummy(-1, 0, 0), BAD);
    }

    private static void lineIs(Due due, DummyInches x, int line, int... parts) {
        for (int what = 0; what < parts.length; what++) {
            due.is("line " + line + " " + what, x.line(line, what), parts[what]);
        }
    }

    private static void lineTells(Due due) {
        DummyInches x = Due.street(ALL);
        x.tell(1, 2, 1, 8);
        x.year();
        x.swap(2, 1);
        x.tell(3, 0, 2, -5);
        lineIs(due, x, 0, 0, 1, 2, 1, 8, 16);
        lineIs(due, x, 1, 1, NONE, NONE, NONE, 0, 0);
        lineIs(due, x, 2, 2, 1, 2, NONE, 0, 0);
        lineIs(due, x, 3, 0, 3, 0, 2, -5, -2);
        due.is("line 4", x.line(4, 0), BAD);
        due.is("line -1", x.line(-1, 0), BAD);
        due.is("what 6", x.line(0, 6), BAD);
        due.is("what -1", x.line(1, -1), BAD);
    }

    private static void itWas(Due due) {
        DummyInches x = Due.street("w2;d10,10,10;d20,20,20;v0;");
        x.tell(0, 0, 0, 7);
        x.year();
        x.swap(0, 1);
        x.tell(0, 0, 0, 5);
        int[] zero = {10, 17, 14, 20, 25};
        int[] one = {20, 20, 20, 14, 14};
        for (int n = 0; n <= 4; n++) {
            due.is("0 was " + n, x.was(n, 0, 0), zero[n]);
            due.is("1 was " + n, x.was(n, 1, 0), one[n]);
        }
        due.is("was 5", x.was(5, 0, 0), BAD);
        due.is("was -1", x.was(-1, 0, 0), BAD);
        due.is("dummy", x.was(0, 2, 0), BAD);
        due.is("place", x.was(0, 0, 3), BAD);
        due.is("it is yet", x.dummy(0, 0, 0), 25);
        x.close();
        due.is("closed", x.was(0, 0, 0), 25);
        due.is("no line", x.was(1, 0, 0), BAD);
        x.tell(0, 0, 0, 2);
        due.is("behind the first", x.was(1, 0, 0), 27);
    }

    private static void actsAreUndone(Due due) {
        DummyInches x = Due.street("w2;d10,10,10;d20,20,20;v0;k0;");
        x.tell(1, 0, 0, 6);
        x.year();
        x.swap(0, 1);
        x.close();
        x.tell(0, 1, 0, 3);
        due.is("5 acts", x.count(5), 5);
        due.is("telling undone", x.undo(), 4);
        due.is("as closed", x.dummy(1, 0, 2), 16);
        due.is("close undone", x.undo(), 3);
        due.is("lines", x.count(3), 3);
        due.is("years", x.count(4), 1);
        due.is("made", x.dummy(0, 0, 1), 10);
        due.is("customer", x.dummy(0, 0, 2), 16);
        due.is("line", x.line(0, 5), 12);
        due.is("swap undone", x.undo(), 2);
        due.is("inches", x.dummy(0, 0, 0), 16);
        due.is("year undone", x.undo(), 1);
        due.is("inches", x.dummy(0, 0, 0), 22);
        due.is("telling undone", x.undo(), 0);
        due.is("inches", x.dummy(0, 0, 0), 10);
        due.is("customer", x.dummy(0, 0, 2), 10);
        due.is("lines", x.count(3), 0);
        due.is("none", x.undo(), STATE);
    }

    private static void oldestActIsForgotten(Due due) {
        DummyInches x = Due.street("w2;d0,0,0;v0;");
        for (int n = 1; n <= 30; n++) {
            x.tell(0, 0, 0, 1);
            if (n % 10 == 0) {
                x.close();
            }
            due.is("acts", x.count(5), Math.min(24, n + n / 10));
        }
        for (int n = 23; n >= 0; n--) {
            due.is("undone", x.undo(), n);
        }
        due.is("forgotten", x.undo(), STATE);
        due.is("the first 9 stay", x.dummy(0, 0, 0), 9);
        due.is("and their lines", x.count(3), 9);
        x.tell(0, 0, 0, 1);
        due.is("acts anew", x.undo(), 0);
    }

    private static void refusedIsNoAct(Due due) {
        DummyInches x = Due.street("w2;d0,0,0;v0;");
        x.tell(0, 0, 0, 100);
        x.tell(1, 0, 0, 1);
        x.swap(0, 1);
        due.is("no acts", x.count(5), 0);
        for (int n = 0; n < 16; n++) {
            x.year();
        }
        x.year();
        x.tell(0, 0, 0, 1);
        due.is("16", x.count(5), 16);
        due.is("no street", new DummyInches().undo(), STATE);
    }
}
