/** Promise 7: street, with the texts of part 1 and their faults. */
public final class Promise07StreetTest extends Promise {
    private static final String FOUR = "d0,0,0;d0,0,0;d0,0,0;d0,0,0;";
    private static final String FIVE = "v1;k2;r3;g4;s5;";

    public static void main(String[] args) throws ReflectiveOperationException {
        new Promise07StreetTest().run();
    }

    private void reads(String text, int dummies, int mouths) {
        DummyInches x = new DummyInches();
        is("read " + text, Made.read(x, text), dummies);
        is("dummies of " + text, x.count(1), dummies);
        is("mouths of " + text, x.count(2), mouths);
        is("tape behind " + text, x.count(6), 0);
        is("fault of " + text, x.fault(), 0);
        is("it stands " + text, x.year(), 0);
    }

    private void faults(String text, int number, int place) {
        DummyInches x = new DummyInches();
        is("read " + text, Made.read(x, text), FAULT - place);
        is("fault of " + text, x.fault(), number);
        is("tape behind " + text, x.count(6), 0);
        is("no street by " + text, x.year(), STATE);
    }

    void theLawAlone() {
        reads("w2;", 0, 0);
    }

    void shrinkIs2To20() {
        reads("w2;", 0, 0);
        reads("w20;", 0, 0);
        faults("w0;", 2, 1);
        faults("w1;", 2, 1);
        faults("w21;", 2, 1);
        faults("w99;", 2, 1);
    }

    void aNumberMayBeginWith0() {
        reads("w02;d00,01,99;v00;", 1, 1);
        faults("w01;", 2, 1);
        faults("w00;", 2, 1);
    }

    void shrinkIsKept() {
        for (int shrink = 2; shrink <= 20; shrink++) {
            DummyInches x = Made.street("w" + shrink + ";d0,0,0;v0;");
            x.tell(0, 0, 0, shrink);
            x.tell(0, 0, 1, shrink - 1);
            x.tell(0, 0, 2, 2 * shrink);
            is("shrink " + shrink, x.year(), 3);
        }
    }

    void inchesAre0To99() {
        DummyInches x = Made.street("w2;d0,99,50;d99,0,1;");
        int[] want = {0, 99, 50, 99, 0, 1};
        for (int k = 0; k < 6; k++) {
            for (int what = 0; what < 3; what++) {
                is("inches, made, customer", x.dummy(k / 3, k % 3, what), want[k]);
            }
        }
        faults("w2;d100,0,0;", 1, 4);
        faults("w2;d0,100,0;", 1, 6);
        faults("w2;d0,0,100;", 1, 8);
        faults("w2;d-1,0,0;", 1, 4);
    }

    void bribesAre0To99() {
        DummyInches x = Made.street("w2;g0;g99;");
        is("0", x.ask(0, 0), -100);
        is("99", x.ask(1, 0), -1);
        faults("w2;g100;", 1, 4);
        faults("w2;g-1;", 1, 4);
    }

    void sortsAreFive() {
        reads("w2;" + FIVE, 0, 5);
        DummyInches x = Made.street("w2;" + FIVE);
        for (int mouth = 0; mouth < 5; mouth++) {
            is("kind", x.kind(mouth), mouth + 1);
        }
        for (char letter = 'a'; letter <= 'z'; letter++) {
            if ("vkrgs".indexOf(letter) < 0 && letter != 'd') {
                faults("w2;" + letter + "1;", 1, 3);
            }
        }
    }

    void dummiesAre4AtMost() {
        reads("w2;" + FOUR, 4, 0);
        faults("w2;" + FOUR + "d0,0,0;", 3, 31);
        faults("w2;" + FOUR + "d", 3, 31);
        faults("w2;" + FOUR + "dx", 3, 31);
    }

    void mouthsAre5AtMost() {
        reads("w2;" + FIVE, 0, 5);
        for (char sort : "vkrgs".toCharArray()) {
            faults("w2;" + FIVE + sort + "1;", 3, 18);
            faults("w2;" + FIVE + sort, 3, 18);
        }
    }

    void fullStreetIsRead() {
        reads("w2;" + FOUR + FIVE, 4, 5);
        faults("w2;" + FOUR + FIVE + "v1;", 3, 46);
        faults("w2;" + FOUR + FIVE + "d0,0,0;", 1, 46);
    }

    void longestStreetIsRead() {
        reads("w20;" + "d99,99,99;".repeat(4) + "s99;".repeat(5), 4, 5);
    }

    void ofOneTokenTheLeastFault() {
        faults("w2;" + FOUR + "v1;d0,0,0;", 1, 34);
        faults("w2;" + FIVE + "x1;", 1, 18);
        faults("w2;" + FIVE + "d0,0,0;", 1, 18);
        faults("w210;", 1, 1);
        faults("w001;", 1, 1);
    }

    void theFirstTokenThatHasAFault() {
        faults("w1;" + FOUR + "d0,0,0;", 2, 1);
        faults("w1x", 2, 1);
        faults("w1", 2, 1);
        faults("w2;d100,x,0;w1;", 1, 4);
        faults("w2;" + FOUR + "d100;", 3, 31);
        faults("xw1;", 1, 0);
    }

    void emptyTapeFaultsAt0() {
        faults("", 1, 0);
    }

    /** Each part of a text ends well behind a law, a dummy, a mouth alone. */
    void theEndFaultsAtTheNumberOfBytes() {
        String text = "w20;d10,20,30;d11,21,31;v10;s20;";
        for (int n = 0; n <= text.length(); n++) {
            String part = text.substring(0, n);
            if (n == 4 || n == 14 || n == 24 || n == 28 || n == 32) {
                reads(part, n < 14 ? 0 : n < 24 ? 1 : 2, n < 28 ? 0 : n < 32 ? 1 : 2);
            } else {
                faults(part, 1, n);
            }
        }
    }

    void threeFiguresFaultAtTheirFirst() {
        faults("w123;", 1, 1);
        faults("w1234567;", 1, 1);
        faults("w002;", 1, 1);
        faults("w123", 1, 1);
        faults("w2;d1,222,3;", 1, 6);
        faults("w2;d1,2222,3;", 1, 6);
        faults("w2;v100;", 1, 4);
        faults("123;", 1, 0);
        faults("w2;123", 1, 3);
    }

    void figuresThatCannotStand() {
        faults("2;", 1, 0);
        faults("w2;2;", 1, 3);
        faults("w2;v1;22", 1, 6);
        faults("w2;d1,2,3;4", 1, 10);
    }

    void lettersThatCannotStand() {
        faults("d1,2,3;", 1, 0);
        faults("v1;", 1, 0);
        faults("ww", 1, 1);
        faults("w2w", 1, 2);
        faults("w2;w3;", 1, 3);
        faults("w2;d1,2,3;w3;", 1, 10);
        faults("w2;v1;w3;", 1, 6);
        faults("w2;dd", 1, 4);
        faults("w2;d1d", 1, 5);
        faults("w2;vv", 1, 4);
        faults("w2;v1v", 1, 5);
    }

    void signsThatCannotStand() {
        faults(";", 1, 0);
        faults(",", 1, 0);
        faults("w;", 1, 1);
        faults("w2,", 1, 2);
        faults("w2;;", 1, 3);
        faults("w2;,", 1, 3);
        faults("w2;d,2,3;", 1, 4);
        faults("w2;d1;2;3;", 1, 5);
        faults("w2;d1,2;3;", 1, 7);
        faults("w2;d1,2,3,4;", 1, 9);
        faults("w2;d1,,3;", 1, 6);
        faults("w2;v;", 1, 4);
        faults("w2;v1,", 1, 5);
    }

    void dummiesAreAheadOfMouths() {
        faults("w2;v1;d1,2,3;", 1, 6);
        reads("w2;d1,2,3;v1;", 1, 1);
    }

    void nothingElseIsAToken() {
        for (int letter = 0; letter < 256; letter++) {
            boolean isToken = letter >= 'a' && letter <= 'z' || letter >= '0' && letter <= '9'
                    || letter == ',' || letter == ';';
            if (!isToken) {
                faults((char) letter + "w2;", 1, 0);
                faults("w" + (char) letter + "2;", 1, 1);
                faults("w2" + (char) letter + ";", 1, 2);
                faults("w2;" + (char) letter, 1, 3);
                faults("w2;d1,2,3;v1" + (char) letter, 1, 12);
            }
        }
    }

    void itStandsInPlaceOfTheOneBefore() {
        DummyInches x = Made.fullLog();
        x.street();
        is("read", Made.read(x, "w3;d9,8,7;g6;"), 1);
        is("dummies", x.count(1), 1);
        is("mouths", x.count(2), 1);
        is("kind", x.kind(0), 4);
        is("kind of the next", x.kind(1), BAD);
        is("inches", x.dummy(0, 1, 0), 8);
        is("made", x.dummy(0, 1, 1), 8);
        is("customer", x.dummy(0, 1, 2), 8);
        is("the next dummy", x.dummy(1, 0, 0), BAD);
    }

    void theLogIsEmptyThen() {
        DummyInches x = Made.fullLog();
        x.street();
        Made.read(x, "w3;d9,8,7;v6;");
        is("lines", x.count(3), 0);
        is("years", x.count(4), 0);
        is("line 0", x.line(0, 0), BAD);
        is("mark", x.ask(0, 1), 0);
        for (int n = 1; n <= 16; n++) {
            is("room for 16", x.tell(0, 0, 0, 1), 9 + n);
        }
    }

    void noActCanBeUndoneThen() {
        DummyInches x = Made.fullActs();
        x.street();
        Made.read(x, "w3;d9,8,7;v6;");
        is("acts", x.count(5), 0);
        is("undo", x.undo(), STATE);
        is("inches", x.dummy(0, 0, 0), 9);
    }

    void rowsImagesAndTraceStay() {
        DummyInches x = Made.standing();
        x.street();
        Made.read(x, "w3;");
        is("rows", x.count(0), 4);
        is("trace", x.trace(0), 23);
        is("image 0", x.restore(0), 1);
        is("its dummies", x.count(1), 3);
        is("image 1", x.restore(1), STATE);
    }

    void statusStays() {
        DummyInches x = Made.standing();
        x.drop(7);
        x.street();
        is("behind a fault", x.status(), 1);
        Made.read(x, "w3;");
        is("behind a street", x.status(), 1);
    }

    /** The fault before has the same number, so that the two objects are to be alike. */
    void allStaysByAFault() {
        foretold("cannot stand", () -> faulted("x"), x -> Made.read(x, "w9;d1,1,1;d2,2,2;k5;v99;q"), FAULT - 24);
        foretold("not as told", () -> faulted("w1"), x -> Made.read(x, "w21"), FAULT - 1);
        foretold("no room", () -> faulted("w2;" + FIVE + "v"), x -> Made.read(x, "w9;" + FOUR + "d"), FAULT - 31);
        foretold("no bytes", () -> faulted("x"), x -> x.street(), FAULT);
    }

    private static DummyInches faulted(String text) {
        DummyInches x = Made.standing();
        x.street();
        Made.read(x, text);
        return x;
    }

    void theStreetBeforeStandsBehindAFault() {
        DummyInches x = Made.street("w2;d5,5,5;v1;");
        x.tell(0, 0, 0, 4);
        is("read", Made.read(x, "w3;d1,1,1;d2,2,2;k5;q"), FAULT - 20);
        is("dummies", x.count(1), 1);
        is("kind", x.kind(0), 1);
        is("lines", x.count(3), 1);
        is("inches", x.dummy(0, 0, 0), 9);
        is("it shrinks by 2 yet", x.year(), 2);
        is("acts", x.count(5), 2);
    }

    void theTapeIsEmptyBehindAFaultToo() {
        DummyInches x = Made.standing();
        is("bytes", x.count(6), 5);
        is("read", x.street(), FAULT - 5);
        is("no bytes", x.count(6), 0);
        is("first byte", x.feed('w'), 1);
    }
}
