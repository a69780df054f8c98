import java.lang.reflect.Method;
import java.lang.reflect.Modifier;
import java.util.Arrays;
import java.util.Comparator;
import java.util.List;
import java.util.function.Supplier;
import java.util.function.ToIntFunction;

/**
 * The tests of one promise: each method of a class above this one that takes and answers nothing
 * is a test of one sentence, and bears its name.
 */
abstract class Promise {
    static final int NONE = -1000000, BAD = -1000001, STATE = -1000002, FULL = -1000003;
    static final int NULL = -1000011, PLACE = -1000012, KIND = -1000013, SIZE = -1000014, STORE = -1000015;
    static final int FINDINGS = -1000010, FAULT = -1000100;
    static final int LEAST = Integer.MIN_VALUE, MOST = Integer.MAX_VALUE;

    private final Due due = new Due();
    private String sentence = "";

    final void run() throws ReflectiveOperationException {
        Method[] methods = getClass().getDeclaredMethods();
        Arrays.sort(methods, Comparator.comparing(Method::getName));
        for (Method method : methods) {
            if (isTest(method)) {
                int before = due.asked();
                sentence = getClass().getName() + "." + method.getName() + ": ";
                method.invoke(this);
                due.isTrue(sentence + "asks nothing", due.asked() > before);
            }
        }
        due.end();
    }

    private static boolean isTest(Method method) {
        int forms = method.getModifiers();
        return method.getParameterCount() == 0 && method.getReturnType() == void.class
                && !Modifier.isStatic(forms) && !Modifier.isPrivate(forms) && !method.isSynthetic();
    }

    final void is(String what, int got, int want) {
        due.is(sentence + what, got, want);
    }

    /** The call answers so, and changes nothing but the status: a finding's number, else what it was. */
    final void refused(String what, Supplier<DummyInches> made, ToIntFunction<DummyInches> call, int answer) {
        boolean isFinding = answer < FINDINGS && answer > FAULT;
        int before = answer == SIZE ? NULL : SIZE;
        leavesAll(what, made, call, answer, before, FINDINGS - (isFinding ? answer : before));
    }

    /** The call has no row, answers so, and changes nothing. */
    final void foretold(String what, Supplier<DummyInches> made, ToIntFunction<DummyInches> call, int answer) {
        leavesAll(what, made, call, answer, SIZE, FINDINGS - SIZE);
    }

    /** The call has a row, or takes a mouth as a kind, answers so, and changes nothing but the status: 0. */
    final void foretoldByRow(String what, Supplier<DummyInches> made, ToIntFunction<DummyInches> call, int answer) {
        leavesAll(what, made, call, answer, SIZE, 0);
    }

    private void leavesAll(String what, Supplier<DummyInches> made, ToIntFunction<DummyInches> call,
            int answer, int before, int status) {
        DummyInches x = made.get();
        is(what + ", a finding before", before == SIZE ? x.row(6, 0, -1) : x.drop(6), before);
        is(what, call.applyAsInt(x), answer);
        is(what + ", status", x.status(), status);
        List<String> left = Reading.of(x);
        List<String> was = Reading.of(made.get());
        due.isTrue(sentence + what + " leaves " + left + ", due is " + was, left.equals(was));
    }
}
