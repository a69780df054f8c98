/** Promise 22: swaps. */
public final class Promise22SwapsTest extends Promise {
    public static void main(String[] args) throws ReflectiveOperationException {
        new Promise22SwapsTest().run();
    }

    /** As standing(), row 5 with what there would be if dummies 0 and 1 were swapped now. */
    private static DummyInches rowed() {
        DummyInches x = Made.standing();
        int[] items = new int[9];
        for (int k = 0; k < 9; k++) {
            int dummy = k / 3;
            items[k] = x.dummy(dummy == 0 ? 1 : dummy == 1 ? 0 : 2, k % 3, 0);
        }
        Made.lay(x, 5, 1, items);
        return x;
    }

    private void seen(DummyInches x, int howMany, int first, int... items) {
        Made.lay(x, 0, 2, items);
        is("how many", x.swaps(0, 0, 0), howMany);
        is("the first", x.swaps(0, 0, 1), first);
    }

    void noStreetIsStateAheadOfBad() {
        refused("no street", Made::bare, x -> x.swaps(0, 0, 0), STATE);
        refused("row", Made::bare, x -> x.swaps(8, 0, 0), STATE);
        refused("what", Made::bare, x -> x.swaps(0, 0, 2), STATE);
        refused("missing", Made::bare, x -> x.swaps(4, 0, 0), STATE);
        refused("place", Made::bare, x -> x.swaps(0, -1, 0), STATE);
    }

    void rowsAre0To7() {
        DummyInches x = Made.street("w2;d0,0,0;d0,0,0;");
        for (int row = 0; row <= 7; row++) {
            x.row(row, 0, 6);
            is("row " + row, x.swaps(row, 0, 0), 1);
        }
        refused("row -1", Promise22SwapsTest::rowed, y -> y.swaps(-1, 0, 0), BAD);
        refused("row 8", Promise22SwapsTest::rowed, y -> y.swaps(8, 0, 0), BAD);
        refused("row most", Promise22SwapsTest::rowed, y -> y.swaps(MOST, 0, 0), BAD);
    }

    void whatIs0Or1() {
        refused("what -1", Promise22SwapsTest::rowed, x -> x.swaps(5, 0, -1), BAD);
        refused("what 2", Promise22SwapsTest::rowed, x -> x.swaps(5, 0, 2), BAD);
        refused("what most", Promise22SwapsTest::rowed, x -> x.swaps(5, 0, MOST), BAD);
    }

    void missingRowIsNull() {
        refused("row 4", Promise22SwapsTest::rowed, x -> x.swaps(4, 0, 0), NULL);
    }

    void threeItemsForEachDummy() {
        foretoldByRow("nine", Promise22SwapsTest::rowed, x -> x.swaps(5, 0, 0), 1);
        foretoldByRow("the first", Promise22SwapsTest::rowed, x -> x.swaps(5, 0, 1), 1);
        refused("place 1", Promise22SwapsTest::rowed, x -> x.swaps(5, 1, 0), PLACE);
        refused("place -1", Promise22SwapsTest::rowed, x -> x.swaps(5, -1, 0), PLACE);
        refused("place most", Promise22SwapsTest::rowed, x -> x.swaps(5, MOST, 0), PLACE);
        refused("place least", Promise22SwapsTest::rowed, x -> x.swaps(5, LEAST, 0), PLACE);
        refused("six", Promise22SwapsTest::rowed, x -> x.swaps(0, 0, 0), PLACE);
        refused("no items", Promise22SwapsTest::rowed, x -> x.swaps(3, 0, 0), PLACE);
    }

    void itemsAreTakenFromIOn() {
        for (int dummies = 2; dummies <= 4; dummies++) {
            DummyInches x = Made.street("w2;" + "d0,0,0;".repeat(dummies));
            int last = 40 - 3 * dummies;
            x.row(0, 0, 40);
            x.set(0, 0, 1);
            is("a wrong one among them", x.swaps(0, 0, 0), 0);
            is("behind it", x.swaps(0, 1, 0), dummies * (dummies - 1) / 2);
            is("the last ones", x.swaps(0, last, 0), dummies * (dummies - 1) / 2);
            is("one on", x.swaps(0, last + 1, 0), PLACE);
            x.row(0, 0, 3 * dummies - 1);
            is("one too few", x.swaps(0, 0, 0), PLACE);
        }
    }

    void badIsAheadOfNullAheadOfPlace() {
        refused("what, missing", Promise22SwapsTest::rowed, x -> x.swaps(4, 0, 2), BAD);
        refused("what, place", Promise22SwapsTest::rowed, x -> x.swaps(5, -1, 2), BAD);
        refused("missing, place", Promise22SwapsTest::rowed, x -> x.swaps(4, -1, 0), NULL);
    }

    void noDummiesHaveNoPairs() {
        DummyInches x = Made.street("w2;v1;");
        x.row(1, 0, 3);
        seen(x, 0, NONE);
        is("at the end", x.swaps(1, 3, 0), 0);
        is("beyond", x.swaps(1, 4, 0), PLACE);
        is("below", x.swaps(1, -1, 0), PLACE);
        is("missing", x.swaps(2, 0, 0), NULL);
    }

    void oneDummyHasNoPair() {
        DummyInches x = Made.street("w2;d1,2,3;");
        seen(x, 0, NONE, 1, 2, 3);
        is("two items", x.swaps(0, 1, 0), PLACE);
    }

    void eachPairIs4TimesTheLesserAndTheOther() {
        for (int a = 0; a < 4; a++) {
            for (int b = a + 1; b < 4; b++) {
                DummyInches x = Made.street("w2;d1,2,3;d4,5,6;d7,8,9;d10,11,12;");
                int[] items = {1, 2, 3, 4, 5, 6, 7, 8, 9, 10, 11, 12};
                for (int place = 0; place < 3; place++) {
                    items[3 * a + place] = 3 * b + place + 1;
                    items[3 * b + place] = 3 * a + place + 1;
                }
                seen(x, 1, 4 * a + b, items);
                items[11]++;
                seen(x, 0, NONE, items);
            }
        }
    }

    void asItIsNoPairIsSwapped() {
        seen(Made.street("w2;d1,2,3;d4,5,6;"), 0, NONE, 1, 2, 3, 4, 5, 6);
    }

    void likeDummiesAreSeenSwapped() {
        DummyInches x = Made.street("w2;d1,2,3;d4,5,6;d1,2,3;d1,2,3;");
        seen(x, 3, 2, 1, 2, 3, 4, 5, 6, 1, 2, 3, 1, 2, 3);
        seen(x, 1, 7, 1, 2, 3, 1, 2, 3, 1, 2, 3, 4, 5, 6);
        seen(Made.street("w2;d1,1,1;d1,1,1;d1,1,1;d1,1,1;"), 6, 1, 1, 1, 1, 1, 1, 1, 1, 1, 1, 1, 1, 1);
    }

    void inchesAsTheyAreNow() {
        DummyInches x = Made.street("w2;d1,2,3;d4,5,6;k0;");
        x.tell(0, 1, 2, -99);
        x.tell(0, 0, 0, 99);
        seen(x, 1, 1, 4, 5, -93, 199, 2, 3);
        x.swap(0, 1);
        seen(x, 1, 1, 199, 2, 3, 4, 5, -93);
        is("nothing was swapped", x.dummy(0, 0, 0), 4);
    }

    void nothingChanges() {
        foretoldByRow("none", Promise22SwapsTest::zeros, x -> x.swaps(5, 0, 0), 0);
        foretoldByRow("no first", Promise22SwapsTest::zeros, x -> x.swaps(5, 0, 1), NONE);
    }

    private static DummyInches zeros() {
        DummyInches x = Made.standing();
        x.row(5, 2, 9);
        return x;
    }
}
