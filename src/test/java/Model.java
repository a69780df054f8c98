import java.util.ArrayDeque;
import java.util.ArrayList;
import java.util.Arrays;
import java.util.Deque;
import java.util.List;

/**
 * The document once more, written apart from the class and as slowly as it likes: whole copies
 * for acts and for what was, trying out where the class reckons.
 */
final class Model {
    static final int NONE = -1000000, BAD = -1000001, STATE = -1000002, FULL = -1000003;

    /** A line of the log, and the inches of all dummies behind it. */
    private record Line(int[] parts, int[][] behind) { }

    private static final class Town {
        int shrink;
        String sorts = "";
        List<Integer> bribes = new ArrayList<>();
        int[][] inches = {};
        int[][] made = {};
        int[][] customers = {};
        List<Line> log = new ArrayList<>();

        Town twin() {
            Town town = new Town();
            town.shrink = shrink;
            town.sorts = sorts;
            town.bribes = new ArrayList<>(bribes);
            town.inches = deep(inches);
            town.made = deep(made);
            town.customers = deep(customers);
            town.log = new ArrayList<>(log);
            return town;
        }
    }

    private final int[][] rows = new int[8][];
    private final int[] lanes = new int[8];
    private String tape = "";
    private Town town = null;
    private int fault = 0;
    private int status = 0;
    private final Deque<Town> acts = new ArrayDeque<>();
    private final Town[] images = new Town[2];
    private List<Integer> trace = new ArrayList<>();

    private static int[][] deep(int[][] of) {
        return Arrays.stream(of).map(int[]::clone).toArray(int[][]::new);
    }

    private int finding(int number) {
        status = number;
        return -1000010 - number;
    }

    private int fine(int answer) {
        status = 0;
        return answer;
    }

    private int dummies() {
        return town == null ? 0 : town.inches.length;
    }

    private int mouths() {
        return town == null ? 0 : town.sorts.length();
    }

    private static boolean in(int x, int least, int most) {
        return least <= x && x <= most;
    }

    private boolean isMouth(int m) {
        return in(m, 0, mouths() - 1);
    }

    private boolean isDummy(int d) {
        return in(d, 0, dummies() - 1);
    }

    int row(int row, int lane, int n) {
        if (!in(row, 0, 7) || !in(lane, 0, 2) || n > 40) {
            return BAD;
        }
        if (n < 0) {
            return finding(4);
        }
        rows[row] = new int[n];
        lanes[row] = lane;
        return fine(n);
    }

    /** 0, or the finding, of n items of a row from i on. */
    private int look(int row, int i, int n) {
        if (rows[row] == null) {
            return 1;
        }
        return i < 0 || n < 0 || (long) i + n > rows[row].length ? 2 : 0;
    }

    int set(int row, int i, int v) {
        if (!in(row, 0, 7)) {
            return BAD;
        }
        if (look(row, i, 1) != 0) {
            return finding(look(row, i, 1));
        }
        int bits = 32 - (8 << lanes[row]);
        rows[row][i] = v << bits >> bits;
        return fine(rows[row][i]);
    }

    int copy(int a, int i, int b, int j, int n) {
        if (!in(a, 0, 7) || !in(b, 0, 7)) {
            return BAD;
        }
        if (rows[a] == null || rows[b] == null) {
            return finding(1);
        }
        if (lanes[a] != lanes[b]) {
            return finding(5);
        }
        if (look(a, i, n) != 0 || look(b, j, n) != 0) {
            return finding(2);
        }
        int[] ahead = rows[a].clone();
        for (int k = 0; k < n; k++) {
            rows[b][j + k] = ahead[i + k];
        }
        return fine(n);
    }

    int drop(int row) {
        if (!in(row, 0, 7)) {
            return BAD;
        }
        if (rows[row] == null) {
            return finding(1);
        }
        int n = rows[row].length;
        rows[row] = null;
        return fine(n);
    }

    int feed(int letter) {
        if (!in(letter, 0, 255)) {
            return BAD;
        }
        if (tape.length() == 140) {
            return FULL;
        }
        tape += (char) letter;
        return tape.length();
    }

    /**
     * Reads by a table: each state tells which tokens may stand. States: 0 w, 1 shrink, 2 its
     * end, 3 a dummy or a mouth, 4 to 9 a dummy's numbers and signs, 10 a mouth, 11 a bribe, 12 its end.
     */
    int street() {
        String text = tape;
        tape = "";
        Town read = new Town();
        List<int[]> dummies = new ArrayList<>();
        int state = 0;
        int at = 0;
        while (at < text.length()) {
            int end = at + 1;
            boolean number = Character.isDigit(text.charAt(at)) && text.charAt(at) < 128;
            while (number && end < text.length() && "0123456789".indexOf(text.charAt(end)) >= 0) {
                end++;
            }
            String token = text.substring(at, end);
            int value = number && end - at <= 2 ? Integer.parseInt(token) : -1;
            boolean sort = "vkrgs".contains(token);
            int wrong = 0;
            if (state == 0) {
                wrong = token.equals("w") ? 0 : 1;
                state = 1;
            } else if (state == 1) {
                wrong = value < 0 ? 1 : in(value, 2, 20) ? 0 : 2;
                read.shrink = value;
                state = 2;
            } else if (state == 2 || state == 9 || state == 12) {
                wrong = token.equals(";") ? 0 : 1;
                state = state == 12 ? 10 : 3;
            } else if (state == 3 && token.equals("d")) {
                wrong = dummies.size() == 4 ? 3 : 0;
                dummies.add(new int[3]);
                state = 4;
            } else if (state == 3 || state == 10) {
                wrong = !sort ? 1 : read.sorts.length() == 5 ? 3 : 0;
                read.sorts += token;
                state = 11;
            } else if (state == 4 || state == 6 || state == 8) {
                wrong = value < 0 ? 1 : 0;
                dummies.get(dummies.size() - 1)[(state - 4) / 2] = value;
                state++;
            } else if (state == 5 || state == 7) {
                wrong = token.equals(",") ? 0 : 1;
                state++;
            } else {
                wrong = value < 0 ? 1 : 0;
                read.bribes.add(value);
                state = 12;
            }
            if (wrong != 0) {
                fault = wrong;
                return -1000100 - at;
            }
            at = end;
        }
        if (state != 3 && state != 10) {
            fault = 1;
            return -1000100 - text.length();
        }
        read.inches = deep(dummies.toArray(new int[0][]));
        read.made = deep(read.inches);
        read.customers = deep(read.inches);
        town = read;
        acts.clear();
        return dummies();
    }

    int fault() {
        return fault;
    }

    int undo() {
        if (acts.isEmpty()) {
            return STATE;
        }
        town = acts.pop();
        return acts.size();
    }

    private void act() {
        acts.push(town.twin());
        if (acts.size() > 24) {
            acts.removeLast();
        }
    }

    private int padding(int mouth, int t) {
        double told = t;
        switch (town.sorts.charAt(mouth)) {
            case 'v': return t;
            case 'k': return t > 0 ? t + t : t;
            case 'r': return 0 - t;
            case 'g': return (int) (told / 2.0);
            default: return 0 - (int) (told / 2.0);
        }
    }

    private void log(int... parts) {
        town.log.add(new Line(parts, deep(town.inches)));
    }

    int tell(int mouth, int dummy, int place, int t) {
        if (!isMouth(mouth) || !isDummy(dummy) || !in(place, 0, 2) || !in(t, -99, 99)) {
            return BAD;
        }
        int padded = padding(mouth, t);
        if (town.log.size() == 16 || !in(town.inches[dummy][place] + padded, -999, 999)
                || !in(town.customers[dummy][place] + t, -999, 999)) {
            return FULL;
        }
        act();
        town.inches[dummy][place] += padded;
        town.customers[dummy][place] += t;
        log(0, mouth, dummy, place, t, padded);
        return town.inches[dummy][place];
    }

    int year() {
        if (town == null) {
            return STATE;
        }
        if (town.log.size() == 16) {
            return FULL;
        }
        act();
        int all = 0;
        for (int d = 0; d < dummies(); d++) {
            for (int p = 0; p < 3; p++) {
                for (int more = town.inches[d][p] - town.made[d][p]; more >= town.shrink; more -= town.shrink) {
                    town.inches[d][p]--;
                    all++;
                }
            }
        }
        log(1, NONE, NONE, NONE, 0, 0);
        return all;
    }

    int swap(int a, int b) {
        if (!isDummy(a) || !isDummy(b) || a == b) {
            return BAD;
        }
        if (town.log.size() == 16) {
            return FULL;
        }
        act();
        int[] held = town.inches[a];
        town.inches[a] = town.inches[b];
        town.inches[b] = held;
        log(2, Math.min(a, b), Math.max(a, b), NONE, 0, 0);
        return town.log.size();
    }

    int close() {
        if (town == null) {
            return STATE;
        }
        act();
        int lines = town.log.size();
        town.log.clear();
        town.made = deep(town.inches);
        town.customers = deep(town.inches);
        return lines;
    }

    int dummy(int dummy, int place, int what) {
        if (!isDummy(dummy) || !in(place, 0, 2) || !in(what, 0, 3)) {
            return BAD;
        }
        int[] all = {town.inches[dummy][place], town.made[dummy][place], town.customers[dummy][place], 0};
        all[3] = all[2] - all[0];
        return all[what];
    }

    int line(int line, int what) {
        if (town == null || !in(line, 0, town.log.size() - 1) || !in(what, 0, 5)) {
            return BAD;
        }
        return town.log.get(line).parts()[what];
    }

    int pads(int mouth, int t) {
        return isMouth(mouth) && in(t, -99, 99) ? padding(mouth, t) : BAD;
    }

    int was(int n, int dummy, int place) {
        if (!isDummy(dummy) || !in(place, 0, 2) || !in(n, 0, town.log.size())) {
            return BAD;
        }
        return n == 0 ? town.made[dummy][place] : town.log.get(n - 1).behind()[dummy][place];
    }

    /** The sets that fit, those with fewest mouths first, of several the least. */
    private List<Integer> sets(int dummy, int row, int i) {
        List<Integer> fit = new ArrayList<>();
        for (int set = 0; set < 1 << mouths(); set++) {
            int[] inches = town.made[dummy].clone();
            int[] customer = town.made[dummy].clone();
            for (Line line : town.log) {
                int[] parts = line.parts();
                if (parts[0] == 0 && parts[2] == dummy) {
                    inches[parts[3]] += (set & 1 << parts[1]) != 0 ? padding(parts[1], parts[4]) : parts[4];
                    customer[parts[3]] += parts[4];
                }
            }
            boolean fits = true;
            for (int p = 0; p < 3; p++) {
                fits &= customer[p] - inches[p] == rows[row][i + p];
            }
            if (fits) {
                fit.add(set);
            }
        }
        fit.sort((a, b) -> Integer.bitCount(a) != Integer.bitCount(b)
                ? Integer.bitCount(a) - Integer.bitCount(b) : a - b);
        return fit;
    }

    int liars(int dummy, int row, int i, int what) {
        if (!isDummy(dummy) || !in(row, 0, 7) || !in(what, 0, 1)) {
            return BAD;
        }
        if (look(row, i, 3) != 0) {
            return finding(look(row, i, 3));
        }
        List<Integer> fit = sets(dummy, row, i);
        return fine(what == 0 ? fit.size() : fit.isEmpty() ? NONE : fit.get(0));
    }

    int blame(int dummy, int mouth, int row, int i, int what) {
        if (!isDummy(dummy) || !isMouth(mouth) || !in(row, 0, 7) || !in(what, 0, 1)) {
            return BAD;
        }
        if (look(row, i, 3) != 0) {
            return finding(look(row, i, 3));
        }
        List<Integer> fit = sets(dummy, row, i);
        if (fit.isEmpty()) {
            return fine(NONE);
        }
        int with = (int) fit.stream().filter(set -> (set >> mouth & 1) == 1).count();
        int common = java.math.BigInteger.valueOf(with).gcd(java.math.BigInteger.valueOf(fit.size())).intValue();
        return fine((what == 0 ? with : fit.size()) / common);
    }

    int right(int dummy, int what) {
        if (!isDummy(dummy) || !in(what, 0, 6)) {
            return BAD;
        }
        int[] answers = {0, NONE, NONE, NONE, NONE, NONE, NONE};
        for (int p = 0; p < 3; p++) {
            int pinch = town.customers[dummy][p] - town.inches[dummy][p];
            if (pinch == 0) {
                continue;
            }
            int best = NONE;
            for (int m = mouths() - 1; m >= 0; m--) {
                for (int t = 99; t >= -99; t--) {
                    if (padding(m, t) == pinch && (best == NONE || town.bribes.get(m) <= town.bribes.get(best))) {
                        best = m;
                        answers[4 + p] = t;
                    }
                }
            }
            if (best == NONE) {
                return NONE;
            }
            answers[1 + p] = best;
            answers[0] += town.bribes.get(best);
        }
        return answers[what];
    }

    int most(int dummy, int place, int what) {
        if (!isDummy(dummy) || !in(place, 0, 2) || !in(what, 0, 1)) {
            return BAD;
        }
        int[] answers = {NONE, NONE};
        for (int m = mouths() - 1; m >= 0; m--) {
            int mouth = m;
            int[] padded = town.log.stream().map(Line::parts)
                    .filter(parts -> parts[0] == 0 && parts[1] == mouth && parts[2] == dummy && parts[3] == place)
                    .mapToInt(parts -> parts[5]).toArray();
            int sum = Arrays.stream(padded).sum();
            if (padded.length > 0 && (answers[0] == NONE || Math.abs(sum) >= Math.abs(answers[1]))) {
                answers = new int[] {m, sum};
            }
        }
        return answers[what];
    }

    int swaps(int row, int i, int what) {
        if (town == null) {
            return STATE;
        }
        if (!in(row, 0, 7) || !in(what, 0, 1)) {
            return BAD;
        }
        if (look(row, i, 3 * dummies()) != 0) {
            return finding(look(row, i, 3 * dummies()));
        }
        int[] told = Arrays.copyOfRange(rows[row], i, i + 3 * dummies());
        List<Integer> pairs = new ArrayList<>();
        for (int pair = 0; pair < 16; pair++) {
            int a = pair / 4;
            int b = pair % 4;
            if (a < b && b < dummies()) {
                int[][] then = town.inches.clone();
                then[a] = town.inches[b];
                then[b] = town.inches[a];
                if (Arrays.equals(told, Arrays.stream(then).flatMapToInt(Arrays::stream).toArray())) {
                    pairs.add(pair);
                }
            }
        }
        return fine(what == 0 ? pairs.size() : pairs.isEmpty() ? NONE : pairs.get(0));
    }

    int lent(int k, int what) {
        if (town == null) {
            return STATE;
        }
        if (!in(k, 0, 1) || !in(what, 0, 1)) {
            return BAD;
        }
        if (images[k] == null || images[k].inches.length != dummies()) {
            return STATE;
        }
        int[] answers = {0, 0};
        for (int d = 0; d < dummies(); d++) {
            for (int p = 0; p < 3; p++) {
                int less = town.inches[d][p] - images[k].inches[d][p];
                if (less != 0) {
                    answers[0] += 1 << 3 * d + p;
                    answers[1] += less < 0 ? -less : less;
                }
            }
        }
        return answers[what];
    }

    int parted(int a, int b, int sum, int what) {
        if (!isMouth(a) || !isMouth(b) || a == b || !in(sum, -200, 200) || !in(what, 0, 1)) {
            return BAD;
        }
        int[] answers = {0, NONE};
        for (int t = 20; t >= -20; t--) {
            for (int u = -20; u <= 20; u++) {
                if (padding(a, t) + padding(b, u) == sum) {
                    answers[0]++;
                    answers[1] = t;
                }
            }
        }
        return answers[what];
    }

    int addedUp(int dummy, int s, int what) {
        if (!isDummy(dummy) || !in(s, 0, 297) || !in(what, 0, 1)) {
            return BAD;
        }
        int[] best = {NONE, NONE};
        int[] is = town.inches[dummy];
        for (int x = -1; x <= 99; x++) {
            for (int y = -1; y <= 99; y++) {
                int first = x < 0 ? is[0] : x;
                int second = y < 0 ? is[1] : y;
                int third = s - first - second;
                if (third == is[2] || in(third, 0, 99)) {
                    int which = (first != is[0] ? 1 : 0) + (second != is[1] ? 2 : 0) + (third != is[2] ? 4 : 0);
                    int many = Integer.bitCount(which);
                    if (best[0] == NONE || many < best[0] || many == best[0] && which < best[1]) {
                        best = new int[] {many, which};
                    }
                }
            }
        }
        return best[what];
    }

    /** The fewest bolts, the strips from one on put into bolts begun or a new one. */
    private static int bolts(List<Integer> strips, int one, List<Integer> left, int b) {
        if (one == strips.size()) {
            return left.size();
        }
        int strip = strips.get(one);
        List<Integer> more = new ArrayList<>(left);
        more.add(b - strip);
        int fewest = bolts(strips, one + 1, more, b);
        for (int bolt = 0; bolt < left.size(); bolt++) {
            if (left.get(bolt) >= strip) {
                List<Integer> then = new ArrayList<>(left);
                then.set(bolt, left.get(bolt) - strip);
                fewest = Math.min(fewest, bolts(strips, one + 1, then, b));
            }
        }
        return fewest;
    }

    int felt(int place, int b, int what) {
        if (town == null) {
            return STATE;
        }
        if (!in(place, 0, 2) || !in(b, 1, 200) || !in(what, 0, 1)) {
            return BAD;
        }
        List<Integer> strips = new ArrayList<>();
        for (int[] inches : town.inches) {
            if (inches[place] > 0) {
                strips.add(inches[place]);
            }
        }
        if (strips.stream().anyMatch(strip -> strip > b)) {
            return NONE;
        }
        int fewest = bolts(strips, 0, new ArrayList<>(), b);
        return what == 0 ? fewest : fewest * b - strips.stream().mapToInt(strip -> strip).sum();
    }

    /** Of all ways to pair the dummies from one on, the least and of several the first; its last number is how much. */
    private int[] pairing(int[] with, int one) {
        int n = with.length - 1;
        if (one == n) {
            return with;
        }
        if (with[one] != -1) {
            return pairing(with, one + 1);
        }
        int[] best = null;
        for (int other = one + 1; other <= n; other++) {
            int[] then = with.clone();
            if (other == n) {
                boolean isOut = n % 2 == 0 || Arrays.stream(with).limit(n).anyMatch(x -> x == NONE);
                if (isOut) {
                    continue;
                }
                then[one] = NONE;
            } else if (with[other] != -1) {
                continue;
            } else {
                then[one] = other;
                then[other] = one;
                for (int p = 0; p < 3; p++) {
                    then[n] += Math.abs(town.inches[one][p] - town.inches[other][p]);
                }
            }
            int[] whole = pairing(then, one + 1);
            if (whole != null && (best == null || whole[n] < best[n])) {
                best = whole;
            }
        }
        return best;
    }

    int twins(int dummy) {
        if (town == null) {
            return STATE;
        }
        if (dummy != -1 && !isDummy(dummy)) {
            return BAD;
        }
        int[] with = new int[dummies() + 1];
        Arrays.fill(with, -1);
        with[dummies()] = 0;
        int[] best = pairing(with, 0);
        return dummy == -1 ? best[dummies()] : best[dummy];
    }

    int image(int k) {
        if (!in(k, 0, 1)) {
            return BAD;
        }
        if (town == null) {
            return STATE;
        }
        images[k] = town.twin();
        return 1;
    }

    int restore(int k) {
        if (!in(k, 0, 1)) {
            return BAD;
        }
        if (images[k] == null) {
            return STATE;
        }
        town = images[k].twin();
        acts.clear();
        return 1;
    }

    int kind(int one) {
        return isMouth(one) ? 1 + "vkrgs".indexOf(town.sorts.charAt(one)) : BAD;
    }

    private static final int[] ABOVE = {-1, 0, 1, 1, 0, 4};

    int as(int one, int kind) {
        if (!isMouth(one) || !in(kind, 0, 5)) {
            return BAD;
        }
        for (int is = kind(one); is >= 0; is = ABOVE[is]) {
            if (is == kind) {
                return fine(one);
            }
        }
        return finding(3);
    }

    /** The body of an ask (10 SIZE, 20 MARK) that begins for a kind, or for the nearest one above it. */
    private static int bodyFor(int ask, int kind) {
        int[] sizes = {10, 11, 12, 0, 13, 14};
        int[] marks = {20, 21, 24, 22, 23, 0};
        int body = (ask == 10 ? sizes : marks)[kind];
        return body == 0 ? bodyFor(ask, ABOVE[kind]) : body;
    }

    private int body(int body, int one) {
        trace.add(body);
        switch (body) {
            case 10: return town.bribes.get(one);
            case 11: {
                int ten = body(10, one);
                return ten + body(bodyFor(20, kind(one)), one);
            }
            case 12: return 0 - body(11, one);
            case 13: return body(10, one) - 100;
            case 14: return body(13, one) * 2;
            case 20: return one;
            case 21: return body(20, one)
                    + (int) town.log.stream().filter(l -> l.parts()[0] == 0 && l.parts()[1] == one).count();
            case 22: return body(21, one) - 1000;
            case 23: {
                int twenty = body(20, one);
                return twenty - body(bodyFor(10, kind(one)), one);
            }
            default: return body(21, one) * 2;
        }
    }

    int ask(int one, int what) {
        if (!isMouth(one) || !in(what, 0, 1)) {
            return BAD;
        }
        trace = new ArrayList<>();
        return body(bodyFor(what == 0 ? 10 : 20, kind(one)), one);
    }

    int trace(int i) {
        return in(i, 0, Math.min(16, trace.size()) - 1) ? trace.get(i) : NONE;
    }

    int count(int what) {
        switch (what) {
            case 0: return (int) Arrays.stream(rows).filter(row -> row != null).count();
            case 1: return dummies();
            case 2: return mouths();
            case 3: return town == null ? 0 : town.log.size();
            case 4: return town == null ? 0 : (int) town.log.stream().filter(l -> l.parts()[0] == 1).count();
            case 5: return acts.size();
            case 6: return tape.length();
            default: return BAD;
        }
    }

    int status() {
        return status;
    }
}
