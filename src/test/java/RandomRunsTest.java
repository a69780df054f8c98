import java.lang.reflect.Method;
import java.util.Arrays;
import java.util.Random;

/** All promises: runs of 512 calls, drawn from fixed seeds, on an object and on the model. */
public final class RandomRunsTest {
    private static final int RUNS = 3000, CALLS = 512;
    private static final int[] EDGES = {Integer.MIN_VALUE, Integer.MAX_VALUE, -1, 0, 1, 2, 3, 4, 5, 8, 40, 41,
        99, 100, -99, -100, 140, 200, 201, 255, 256, 297, 298, -200, -201, 1000000};

    private static final String[] NAMES = {"row", "set", "copy", "drop", "feed", "street", "fault", "undo", "tell",
        "year", "swap", "close", "dummy", "line", "pads", "was", "liars", "blame", "right", "most", "swaps", "lent",
        "parted", "addedUp", "felt", "twins", "image", "restore", "kind", "as", "ask", "trace", "count", "status"};
    private static final Method[] OF_CLASS = methods(DummyInches.class);
    private static final Method[] OF_MODEL = methods(Model.class);
    private static final int FEED = 4, STREET = 5;

    private final Random random;
    private final DummyInches x = new DummyInches();
    private final Model model = new Model();
    private String waiting = "";
    private boolean isFed = false;

    private RandomRunsTest(long seed) {
        random = new Random(seed);
        waiting = drawText();
    }

    public static void main(String[] args) throws ReflectiveOperationException {
        Due due = new Due();
        int[] answered = new int[NAMES.length];
        for (int run = 0; run < RUNS; run++) {
            new RandomRunsTest(run).run(due, run, answered);
        }
        for (int call = 0; call < NAMES.length; call++) {
            due.isTrue(NAMES[call] + " was answered too seldom: " + answered[call], answered[call] >= 1000);
        }
        due.end();
    }

    private static Method[] methods(Class<?> of) {
        return Arrays.stream(NAMES).map(name -> Arrays.stream(of.getDeclaredMethods())
                .filter(method -> method.getName().equals(name)).findFirst().orElseThrow()).toArray(Method[]::new);
    }

    private void run(Due due, int run, int[] answered) throws ReflectiveOperationException {
        for (int n = 0; n < CALLS; n++) {
            int call = drawCall();
            Object[] a = drawArguments(call);
            int got = (int) OF_CLASS[call].invoke(x, a);
            int want = (int) OF_MODEL[call].invoke(model, a);
            due.is("run " + run + " call " + n + ": " + NAMES[call] + Arrays.toString(a), got, want);
            if (got != want) {
                return;
            }
            answered[call] += got > DummyInches.NONE ? 1 : 0;
        }
    }

    private int drawCall() {
        if (!waiting.isEmpty()) {
            return FEED;
        }
        if (isFed) {
            isFed = false;
            return random.nextInt(8) == 0 ? FEED : STREET;
        }
        int drawn = random.nextInt(80);
        if (drawn < NAMES.length) {
            boolean isReading = drawn == STREET || drawn == FEED;
            return isReading && random.nextInt(4) != 0 ? random.nextInt(NAMES.length) : drawn;
        }
        int[] often = {1, 8, 8, 8, 8, 9, 10, 16, 17, 18, 19, 20, 21, 25};
        return often[drawn % often.length];
    }

    private Object[] drawArguments(int call) {
        int[] a = new int[5];
        for (int k = 0; k < 5; k++) {
            a[k] = random.nextInt(4);
        }
        fitArguments(call, a);
        if (call != FEED && random.nextInt(12) == 0) {
            a[random.nextInt(5)] = EDGES[random.nextInt(EDGES.length)];
        }
        return Arrays.stream(a).limit(OF_CLASS[call].getParameterCount()).boxed().toArray();
    }

    private void fitArguments(int call, int[] a) {
        switch (NAMES[call]) {
            case "row": a[1] = random.nextInt(3); a[2] = random.nextInt(24) - 1; break;
            case "set": a[1] = random.nextInt(14); a[2] = drawItem(); break;
            case "copy": a[0] = random.nextInt(3); a[2] = random.nextInt(3); a[1] = random.nextInt(8); a[3] = random.nextInt(8); a[4] = random.nextInt(8); break;
            case "feed": a[0] = random.nextInt(500) == 0 ? random.nextInt(300) - 20 : drawByte(); break;
            case "tell": a[0] = random.nextInt(5); a[2] = random.nextInt(3); a[3] = drawTold(); break;
            case "dummy": a[1] = random.nextInt(3); break;
            case "line": a[0] = random.nextInt(16); a[1] = random.nextInt(6); break;
            case "pads": a[0] = random.nextInt(5); a[1] = drawTold(); break;
            case "was": a[0] = random.nextInt(17); a[2] = random.nextInt(3); break;
            case "liars": a[3] = random.nextInt(2); break;
            case "blame": a[1] = random.nextInt(5); a[4] = random.nextInt(2); break;
            case "right": a[1] = random.nextInt(7); break;
            case "most": a[2] = random.nextInt(2); break;
            case "swaps": a[1] = random.nextInt(3); a[2] = random.nextInt(2); break;
            case "lent": a[0] = random.nextInt(2); a[1] = random.nextInt(2); break;
            case "parted": a[1] = random.nextInt(5); a[2] = random.nextInt(120) - 60; a[3] = random.nextInt(2); break;
            case "addedUp": a[1] = random.nextInt(298); a[2] = random.nextInt(2); break;
            case "felt": a[0] = random.nextInt(3); a[1] = 1 + random.nextInt(200); a[2] = random.nextInt(2); break;
            case "twins": a[0] = random.nextInt(5) - 1; break;
            case "kind": case "as": case "ask": a[0] = random.nextInt(5); break;
            case "trace": case "count": a[0] = random.nextInt(7); break;
            default: break;
        }
    }

    /** A value that a dummy has, or pinches by, or just a small one. */
    private int drawItem() {
        int held = model.dummy(random.nextInt(4), random.nextInt(3), random.nextBoolean() ? 3 : 0);
        if (held != DummyInches.BAD && random.nextBoolean()) {
            return held;
        }
        return random.nextInt(6) == 0 ? random.nextInt() : random.nextInt(5) - 2;
    }

    private int drawTold() {
        return random.nextInt(3) == 0 ? random.nextInt(203) - 101 : random.nextInt(9) - 4;
    }

    /** Bytes of a whole text, now and then one that is spoilt. */
    private int drawByte() {
        if (waiting.isEmpty()) {
            waiting = drawText();
        }
        int letter = waiting.charAt(0);
        waiting = waiting.substring(1);
        isFed = waiting.isEmpty();
        return letter;
    }

    private String drawText() {
        StringBuilder text = new StringBuilder("w").append(random.nextInt(12) == 0 ? 21 : 2 + random.nextInt(19));
        text.append(';');
        boolean alike = random.nextBoolean();
        for (int n = drawCount(4); n > 0; n--) {
            text.append('d').append(width(alike)).append(',').append(width(alike)).append(',').append(width(alike));
            text.append(';');
        }
        for (int n = drawCount(5); n > 0; n--) {
            text.append("vkrgs".charAt(random.nextInt(5))).append(width(random.nextBoolean())).append(';');
        }
        if (random.nextInt(3) == 0) {
            String signs = "wdvx0123,; \u00e9";
            int at = random.nextInt(text.length());
            char sign = signs.charAt(random.nextInt(signs.length()));
            switch (random.nextInt(3)) {
                case 0: text.setCharAt(at, sign); break;
                case 1: text.insert(at, sign); break;
                default: text.deleteCharAt(at); break;
            }
        }
        return text.length() == 0 ? "w" : text.toString();
    }

    /** Mostly many, now and then one more than there is room for. */
    private int drawCount(int room) {
        return random.nextInt(12) == 0 ? room + 1 : Math.max(random.nextInt(room + 1), random.nextInt(room + 1));
    }

    private int width(boolean alike) {
        return alike ? random.nextInt(3) : random.nextInt(100);
    }
}
