/** Promise 24: parted. */
public final class Promise24PartedTest extends Promise {
    public static void main(String[] args) throws ReflectiveOperationException {
        new Promise24PartedTest().run();
    }

    private static final int VALET = 0, COOK = 1, RIVAL = 2, GOSSIP = 3, SPY = 4;

    private void parted(int a, int b, int sum, int ways, int first) {
        DummyInches x = Made.street("w2;v0;k0;r0;g0;s0;");
        is("ways of " + sum, x.parted(a, b, sum, 0), ways);
        is("first t of " + sum, x.parted(a, b, sum, 1), first);
    }

    void mouthsAreThoseOfTheStreet() {
        refused("a -1", Made::standing, x -> x.parted(-1, 0, 0, 0), BAD);
        refused("b -1", Made::standing, x -> x.parted(0, -1, 0, 0), BAD);
        refused("a 5", Made::standing, x -> x.parted(5, 0, 0, 0), BAD);
        refused("b 5", Made::standing, x -> x.parted(0, 5, 0, 0), BAD);
        refused("most", Made::standing, x -> x.parted(MOST, LEAST, 0, 0), BAD);
        refused("one mouth", () -> Made.street("w2;v1;"), x -> x.parted(0, 1, 0, 0), BAD);
        refused("no mouths", () -> Made.street("w2;d1,2,3;"), x -> x.parted(0, 1, 0, 0), BAD);
        refused("no street", Made::bare, x -> x.parted(0, 1, 0, 0), BAD);
    }

    void alikeIsBad() {
        refused("0 and 0", Made::standing, x -> x.parted(0, 0, 0, 0), BAD);
        refused("4 and 4", Made::standing, x -> x.parted(4, 4, 0, 1), BAD);
    }

    void sumIsMinus200To200() {
        parted(VALET, COOK, 200, 0, NONE);
        parted(VALET, COOK, -200, 0, NONE);
        refused("201", Made::standing, x -> x.parted(0, 1, 201, 0), BAD);
        refused("-201", Made::standing, x -> x.parted(0, 1, -201, 0), BAD);
        refused("most", Made::standing, x -> x.parted(0, 1, MOST, 0), BAD);
        refused("least", Made::standing, x -> x.parted(0, 1, LEAST, 0), BAD);
    }

    void whatIs0Or1() {
        refused("what -1", Made::standing, x -> x.parted(0, 1, 0, -1), BAD);
        refused("what 2", Made::standing, x -> x.parted(0, 1, 0, 2), BAD);
        refused("what most", Made::standing, x -> x.parted(0, 1, 0, MOST), BAD);
    }

    void tAndUAreMinus20To20() {
        parted(VALET, RIVAL, 40, 1, 20);
        parted(VALET, RIVAL, 41, 0, NONE);
        parted(VALET, RIVAL, -40, 1, -20);
        parted(VALET, RIVAL, -41, 0, NONE);
        parted(VALET, RIVAL, 39, 2, 19);
        parted(VALET, RIVAL, 0, 41, -20);
    }

    void aCookPads40AtMost() {
        parted(COOK, VALET, 60, 1, 20);
        parted(COOK, VALET, 59, 1, 20);
        parted(COOK, VALET, 58, 2, 19);
        parted(COOK, VALET, 61, 0, NONE);
        parted(VALET, COOK, 60, 1, 20);
        parted(COOK, VALET, -40, 1, -20);
    }

    void whatIsCutCountsEachWay() {
        parted(GOSSIP, SPY, 20, 1, 20);
        parted(GOSSIP, SPY, 19, 4, 18);
        parted(GOSSIP, SPY, 21, 0, NONE);
        parted(GOSSIP, SPY, -20, 1, -20);
        parted(GOSSIP, SPY, -19, 4, -20);
    }

    /** Of gossip and spy: twice two of each half from -9 to 9, three of 0, one of 10, of -10. */
    void allWaysTo0() {
        parted(GOSSIP, SPY, 0, 18 * 4 + 9 + 2, -20);
    }

    void theFirstTIsAsOfTheFirstMouth() {
        parted(VALET, GOSSIP, 30, 1, 20);
        parted(GOSSIP, VALET, 30, 1, 20);
        parted(VALET, SPY, 25, 11, 15);
        parted(SPY, VALET, 25, 11, -20);
    }

    void twoOfASort() {
        DummyInches x = Made.street("w2;k0;k0;");
        is("80", x.parted(0, 1, 80, 0), 1);
        is("79", x.parted(0, 1, 79, 0), 0);
        is("78", x.parted(1, 0, 78, 0), 2);
        is("78", x.parted(1, 0, 78, 1), 19);
        is("-40", x.parted(0, 1, -40, 1), -20);
        is("-41", x.parted(0, 1, -41, 1), NONE);
    }

    void noDummiesAreNeeded() {
        parted(VALET, COOK, 0, 31, -20);
    }

    void nothingChanges() {
        foretold("ways", Made::standing, x -> x.parted(0, 2, 40, 0), 1);
        foretold("first", Made::standing, x -> x.parted(0, 2, 40, 1), 20);
        foretold("no ways", Made::standing, x -> x.parted(0, 2, 41, 0), 0);
        foretold("no first", Made::standing, x -> x.parted(0, 2, 41, 1), NONE);
    }
}
