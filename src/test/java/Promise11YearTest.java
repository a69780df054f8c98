/** Promise 11: year, with the years of part 2. */
public final class Promise11YearTest extends Promise {
    public static void main(String[] args) throws ReflectiveOperationException {
        new Promise11YearTest().run();
    }

    void noStreetIsState() {
        refused("no street", Made::bare, x -> x.year(), STATE);
    }

    void theLogHas16LinesAtMost() {
        DummyInches x = Made.street(Made.ALL);
        for (int n = 1; n <= 16; n++) {
            is("year " + n, x.year(), 0);
            is("lines", x.count(3), n);
            is("years", x.count(4), n);
        }
        is("17th", x.year(), FULL);
        refused("17th", Made::fullLog, y -> y.year(), FULL);
    }

    private void shrinks(int shrink, int told, int less) {
        DummyInches x = Made.street("w" + shrink + ";d10,10,10;v0;");
        x.tell(0, 0, 1, told);
        is(told + " by " + shrink, x.year(), less);
        is("inches then", x.dummy(0, 1, 0), 10 + told - less);
        is("made", x.dummy(0, 1, 1), 10);
        is("customer", x.dummy(0, 1, 2), 10 + told);
    }

    void whatIsMoreIsDividedByShrinkAndCut() {
        shrinks(2, 1, 0);
        shrinks(2, 2, 1);
        shrinks(2, 3, 1);
        shrinks(4, 3, 0);
        shrinks(4, 4, 1);
        shrinks(4, 7, 1);
        shrinks(4, 8, 2);
        shrinks(20, 19, 0);
        shrinks(20, 20, 1);
        shrinks(20, 99, 4);
    }

    void asMadeOrLessStays() {
        shrinks(2, 0, 0);
        shrinks(2, -1, 0);
        shrinks(2, -2, 0);
        shrinks(2, -99, 0);
    }

    void allTogether() {
        DummyInches x = Made.street("w4;d10,10,10;d0,0,50;v0;");
        x.tell(0, 0, 0, 11);
        x.tell(0, 0, 1, -11);
        x.tell(0, 1, 0, 3);
        x.tell(0, 1, 1, 4);
        is("2 and 1", x.year(), 3);
        is("9 by 4", x.year(), 2);
        is("7 by 4", x.year(), 1);
        is("6 by 4", x.year(), 1);
        is("5 by 4", x.year(), 1);
        is("4 by 4", x.year(), 1);
        is("3 by 4", x.year(), 0);
    }

    void behindASwapItIsMoreThanItselfWasMade() {
        DummyInches x = Made.street("w4;d10,10,10;d0,0,50;v0;");
        x.swap(0, 1);
        is("40 by 4, and 10 by 4 twice", x.year(), 14);
        is("dummy 0", x.dummy(0, 2, 0), 40);
        is("dummy 0, less than made", x.dummy(0, 0, 0), 0);
        is("dummy 1", x.dummy(1, 0, 0), 8);
        is("dummy 1, less than made", x.dummy(1, 2, 0), 10);
    }

    void behindACloseNothingIsMore() {
        DummyInches x = Made.street("w2;d10,10,10;v0;");
        x.tell(0, 0, 0, 50);
        x.close();
        is("made so", x.year(), 0);
        x.tell(0, 0, 0, 4);
        is("4 by 2", x.year(), 2);
    }

    void noDummiesHaveNothingLess() {
        DummyInches x = Made.street("w2;");
        is("year", x.year(), 0);
        is("a line", x.count(3), 1);
        is("an act", x.count(5), 1);
    }

    void allTwelvePlacesShrink() {
        DummyInches x = Made.street("w2;d0,0,0;d0,0,0;d0,0,0;d0,0,0;v0;");
        for (int k = 0; k < 12; k++) {
            x.tell(0, k / 3, k % 3, 2 * k);
        }
        is("0 to 11", x.year(), 66);
        for (int k = 0; k < 12; k++) {
            is("place", x.dummy(k / 3, k % 3, 0), k);
        }
    }

    void aClosedLogHasRoomAgain() {
        DummyInches x = Made.fullLog();
        x.close();
        is("year", x.year(), 0);
    }

    void statusStays() {
        DummyInches x = Made.standing();
        x.drop(7);
        x.year();
        is("status", x.status(), 1);
    }
}
