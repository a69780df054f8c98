import java.util.ArrayList;
import java.util.List;

/** What a test is due: it collects the answers that are not, and tells them at the end. */
final class Due {
    private final List<String> wrong = new ArrayList<>();
    private int asked = 0;

    void is(String what, int got, int want) {
        asked++;
        if (got != want) {
            wrong.add(what + " answered " + got + ", due is " + want);
        }
    }

    void isTrue(String what, boolean holds) {
        asked++;
        if (!holds) {
            wrong.add(what);
        }
    }

    int asked() {
        return asked;
    }

    /** Ends the test: exit code 1 if an answer was not the one that is due. */
    void end() {
        for (String line : wrong) {
            System.out.println(line);
        }
        System.out.println(asked + " answers, " + wrong.size() + " not as due");
        if (!wrong.isEmpty()) {
            System.exit(1);
        }
    }
}
