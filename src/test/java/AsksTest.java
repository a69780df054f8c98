/** Promises 30 to 34: kinds, asks, the trace, counts. */
public final class AsksTest {
    private static final int NONE = DummyInches.NONE, BAD = DummyInches.BAD, KIND = -1000013;
    private static final String ALL = "w4;d40,30,20;v5;k3;r9;g1;s0;v7;";

    public static void main(String[] args) {
        Due due = new Due();
        kindsAreTold(due);
        takenAs(due);
        asked(due);
        askRefused(due);
        counted(due);
        constants(due);
        due.end();
    }

    private static DummyInches street() {
        return Due.street("w4;d40,30,20;v5;k3;r9;g1;s0;");
    }

    private static void kindsAreTold(Due due) {
        DummyInches x = street();
        for (int one = 0; one < 5; one++) {
            due.is("kind " + one, x.kind(one), one + 1);
        }
        due.is("kind 5", x.kind(5), BAD);
        due.is("kind -1", x.kind(-1), BAD);
        due.is("no street", new DummyInches().kind(0), BAD);
    }

    private static void takenAs(Due due) {
        DummyInches x = street();
        boolean[][] is = {
            {true, true, false, false, false, false},
            {true, true, true, false, false, false},
            {true, true, false, true, false, false},
            {true, false, false, false, true, false},
            {true, false, false, false, true, true},
        };
        for (int one = 0; one < 5; one++) {
            for (int kind = 0; kind <= 5; kind++) {
                due.is(one + " as " + kind, x.as(one, kind), is[one][kind] ? one : KIND);
                due.is(one + " as " + kind, x.status(), is[one][kind] ? 0 : 3);
            }
        }
        due.is("kind 6", x.as(0, 6), BAD);
        due.is("kind -1", x.as(0, -1), BAD);
        due.is("mouth 5", x.as(5, 0), BAD);
        due.is("mouth -1", x.as(-1, 0), BAD);
    }

    private static void askIs(Due due, DummyInches x, int one, int what, int want, int... trace) {
        due.is("ask " + one + " " + what, x.ask(one, what), want);
        for (int i = 0; i < trace.length; i++) {
            due.is("trace " + i + " of " + one + " " + what, x.trace(i), trace[i]);
        }
        due.is("the trace ends", x.trace(trace.length), NONE);
        due.is("trace -1", x.trace(-1), NONE);
        due.is("trace most", x.trace(Integer.MAX_VALUE), NONE);
    }

    private static void asked(Due due) {
        DummyInches x = street();
        for (int one = 0; one < 5; one++) {
            x.tell(one, 0, 0, 1);
            x.tell(one, 0, 1, 1);
        }
        x.tell(1, 0, 2, 0);
        x.year();
        askIs(due, x, 0, 0, 7, 11, 10, 21, 20);
        askIs(due, x, 0, 1, 2, 21, 20);
        askIs(due, x, 1, 0, -11, 12, 11, 10, 24, 21, 20);
        askIs(due, x, 1, 1, 8, 24, 21, 20);
        askIs(due, x, 2, 0, -987, 11, 10, 22, 21, 20);
        askIs(due, x, 2, 1, -996, 22, 21, 20);
        askIs(due, x, 3, 0, -99, 13, 10);
        askIs(due, x, 3, 1, 102, 23, 20, 13, 10);
        askIs(due, x, 4, 0, -200, 14, 13, 10);
        askIs(due, x, 4, 1, 204, 23, 20, 14, 13, 10);
        x.close();
        askIs(due, x, 0, 1, 0, 21, 20);
        askIs(due, x, 1, 0, -5, 12, 11, 10, 24, 21, 20);
    }

    private static void askRefused(Due due) {
        DummyInches x = street();
        x.ask(3, 0);
        due.is("mouth 5", x.ask(5, 0), BAD);
        due.is("mouth -1", x.ask(-1, 0), BAD);
        due.is("what 2", x.ask(0, 2), BAD);
        due.is("what -1", x.ask(0, -1), BAD);
        due.is("the trace stays", x.trace(0), 13);
        due.is("the trace stays", x.trace(1), 10);
        Due.read(x, "w2;");
        due.is("the trace stays behind a street", x.trace(1), 10);
    }

    private static void counted(Due due) {
        DummyInches x = street();
        due.is("a mouth more", Due.read(x, ALL), -1000128);
        x.row(2, 0, 1);
        x.row(5, 0, 1);
        x.row(5, 1, 1);
        x.tell(0, 0, 0, 1);
        x.year();
        x.close();
        x.year();
        x.tell(0, 0, 0, 1);
        x.year();
        x.feed('a');
        int[] want = {2, 1, 5, 3, 2, 6, 1};
        for (int what = 0; what <= 6; what++) {
            due.is("count " + what, x.count(what), want[what]);
        }
        due.is("count 7", x.count(7), BAD);
        due.is("count -1", x.count(-1), BAD);
    }

    private static void constants(Due due) {
        due.is("NONE", DummyInches.NONE, -1000000);
        due.is("BAD", DummyInches.BAD, -1000001);
        due.is("STATE", DummyInches.STATE, -1000002);
        due.is("FULL", DummyInches.FULL, -1000003);
    }
}
