import java.util.List;
import java.util.function.ToIntFunction;

/** That Reading sees each change, so that the tests of the promises may rely on it. */
public final class ReadingTest {
    public static void main(String[] args) {
        Due due = new Due();
        List<String> made = Reading.of(Made.standing());
        due.isTrue("two that were made alike are read alike", made.equals(Reading.of(Made.standing())));
        sees(due, "an item", made, x -> x.set(2, 3, 14));
        sees(due, "a lane", made, x -> x.row(3, 1, 0));
        sees(due, "a size", made, x -> x.row(3, 0, 1));
        sees(due, "a row laid", made, x -> x.row(7, 0, 0));
        sees(due, "a row dropped", made, x -> x.drop(3));
        sees(due, "a byte", made, x -> x.feed('9'));
        sees(due, "a byte that stands for another", made, x -> x.street() + fed(x, "w3;d6"));
        sees(due, "a fault", made, x -> x.street() + Made.read(x, "w") + fed(x, "w3;d7"));
        sees(due, "a telling", made, x -> x.tell(3, 2, 2, 1));
        sees(due, "an act undone", made, x -> x.undo());
        sees(due, "an act done again", made, x -> x.undo() + x.tell(3, 0, 2, -4));
        sees(due, "an act more", made, x -> x.close() + x.close());
        sees(due, "an image kept", made, x -> x.image(1));
        sees(due, "an image kept anew", made, x -> x.image(0));
        sees(due, "an image restored", made, x -> x.restore(0));
        sees(due, "a trace", made, x -> x.ask(4, 0));
        seesStreets(due);
        due.end();
    }

    private static int fed(DummyInches x, String text) {
        Made.feed(x, text);
        return 0;
    }

    private static void sees(Due due, String what, List<String> made, ToIntFunction<DummyInches> change) {
        DummyInches x = Made.standing();
        change.applyAsInt(x);
        due.isTrue(what + " is not seen", !made.equals(Reading.of(x)));
    }

    private static void seesStreets(Due due) {
        List<String> made = Reading.of(Made.street("w2;d1,2,3;v4;"));
        for (String other : new String[] {"w3;d1,2,3;v4;", "w2;d2,2,3;v4;", "w2;d1,3,3;v4;", "w2;d1,2,4;v4;",
            "w2;d1,2,3;k4;", "w2;d1,2,3;v5;", "w2;d1,2,3;v4;v4;", "w2;d1,2,3;d1,2,3;v4;", "w2;d1,2,3;", "w2;v4;"}) {
            due.isTrue(other + " is not seen", !made.equals(Reading.of(Made.street(other))));
        }
    }
}
