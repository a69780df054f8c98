/** Promise 30: kind. */
public final class Promise30KindTest extends Promise {
    public static void main(String[] args) throws ReflectiveOperationException {
        new Promise30KindTest().run();
    }

    void kindsAre1To5() {
        DummyInches x = Made.street("w2;v0;k0;r0;g0;s0;");
        for (int mouth = 0; mouth < 5; mouth++) {
            is("mouth " + mouth, x.kind(mouth), mouth + 1);
        }
        DummyInches y = Made.street("w2;s0;s0;g0;r0;k0;");
        int[] want = {5, 5, 4, 3, 2};
        for (int mouth = 0; mouth < 5; mouth++) {
            is("mouth " + mouth, y.kind(mouth), want[mouth]);
        }
    }

    void mouthsAreThoseOfTheStreet() {
        refused("mouth -1", Made::standing, x -> x.kind(-1), BAD);
        refused("mouth 5", Made::standing, x -> x.kind(5), BAD);
        refused("mouth most", Made::standing, x -> x.kind(MOST), BAD);
        refused("mouth least", Made::standing, x -> x.kind(LEAST), BAD);
        refused("second of one", () -> Made.street("w2;v1;"), x -> x.kind(1), BAD);
        refused("no mouths", () -> Made.street("w2;d1,2,3;"), x -> x.kind(0), BAD);
        refused("no street", Made::bare, x -> x.kind(0), BAD);
    }

    void nothingChanges() {
        foretold("kind", Made::standing, x -> x.kind(4), 5);
    }
}
