/** Promise 31: as. */
public final class Promise31AsTest extends Promise {
    public static void main(String[] args) throws ReflectiveOperationException {
        new Promise31AsTest().run();
    }

    private void taken(int mouth, boolean... is) {
        for (int k = 0; k <= 5; k++) {
            int kind = k;
            if (is[kind]) {
                foretoldByRow("as " + kind, Made::standing, x -> x.as(mouth, kind), mouth);
            } else {
                refused("as " + kind, Made::standing, x -> x.as(mouth, kind), KIND);
            }
        }
    }

    void aValetIsAMouth() {
        taken(0, true, true, false, false, false, false);
    }

    void aCookIsAValet() {
        taken(1, true, true, true, false, false, false);
    }

    void aRivalIsAValet() {
        taken(2, true, true, false, true, false, false);
    }

    void aGossipIsAMouth() {
        taken(3, true, false, false, false, true, false);
    }

    void aSpyIsAGossip() {
        taken(4, true, false, false, false, true, true);
    }

    void mouthsAreThoseOfTheStreet() {
        refused("mouth -1", Made::standing, x -> x.as(-1, 0), BAD);
        refused("mouth 5", Made::standing, x -> x.as(5, 0), BAD);
        refused("mouth most", Made::standing, x -> x.as(MOST, 0), BAD);
        refused("mouth least", Made::standing, x -> x.as(LEAST, 0), BAD);
        refused("no mouths", () -> Made.street("w2;d1,2,3;"), x -> x.as(0, 0), BAD);
        refused("no street", Made::bare, x -> x.as(0, 0), BAD);
    }

    void kindsAre0To5() {
        refused("kind -1", Made::standing, x -> x.as(0, -1), BAD);
        refused("kind 6", Made::standing, x -> x.as(0, 6), BAD);
        refused("kind most", Made::standing, x -> x.as(0, MOST), BAD);
        refused("kind least", Made::standing, x -> x.as(0, LEAST), BAD);
    }

    void badIsAheadOfKind() {
        refused("no such mouth as a spy", Made::standing, x -> x.as(5, 5), BAD);
    }
}
