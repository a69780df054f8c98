import java.util.Arrays;

public final class DummyInches {
    public static final int NONE = -1000000, BAD = -1000001, STATE = -1000002, FULL = -1000003;

    private static final int FINDINGS = -1000010;
    private static final int NULL = 1, PLACE = 2, KIND = 3, SIZE = 4, STORE = 5;
    private static final int FAULTS = -1000100;
    private static final int CANNOT_STAND = 1, NOT_AS_TOLD = 2, NO_ROOM = 3;

    private static final int PLACES = 3, MOST_DUMMIES = 4, MOST_MOUTHS = 5;
    private static final int MOST_LINES = 16, MOST_ACTS = 24, MOST_IMAGES = 2;
    private static final int MOST_TOLD = 99, MOST_INCHES = 999;
    private static final int MOST_PARTED = 20, MOST_PARTED_SUM = 200;
    private static final int MOST_REPAIRED = 99, LONGEST_BOLT = 200;

    private static final int TELLING = 0, YEAR = 1, SWAP = 2;
    private static final int MOUTH = 0, VALET = 1, COOK = 2, RIVAL = 3, GOSSIP = 4, SPY = 5;

    private final Rows rows = new Rows();
    private final Tape tape = new Tape();
    private final Street street = new Street();
    private final Street spare = new Street();
    private final Foretold foretold = new Foretold();
    private final Asking asking = new Asking();
    private final Street[] images = new Street[MOST_IMAGES];
    private final Street[] acts = new Street[MOST_ACTS];
    private int actCount;
    private int latestAct;
    private int latestFault;
    private int latestFinding;

    public DummyInches() {
    }

    // ---- rows

    public int row(int row, int lane, int n) {
        if (!Rows.isRow(row) || !Rows.isLane(lane) || n > Rows.MOST_ITEMS) {
            return BAD;
        }
        if (n < 0) {
            return found(SIZE);
        }
        rows.lay(row, lane, n);
        return answered(n);
    }

    public int set(int row, int i, int v) {
        if (!Rows.isRow(row)) {
            return BAD;
        }
        int finding = rows.findingAt(row, i, 1);
        if (finding != 0) {
            return found(finding);
        }
        return answered(rows.put(row, i, v));
    }

    public int copy(int a, int i, int b, int j, int n) {
        if (!Rows.isRow(a) || !Rows.isRow(b)) {
            return BAD;
        }
        int finding = rows.findingOfMove(a, i, b, j, n);
        if (finding != 0) {
            return found(finding);
        }
        rows.move(a, i, b, j, n);
        return answered(n);
    }

    public int drop(int row) {
        if (!Rows.isRow(row)) {
            return BAD;
        }
        if (rows.isMissing(row)) {
            return found(NULL);
        }
        return answered(rows.lose(row));
    }

    // ---- what is told

    public int feed(int letter) {
        if (letter < 0 || letter > 255) {
            return BAD;
        }
        if (tape.isFull()) {
            return FULL;
        }
        return tape.add(letter);
    }

    public int street() {
        boolean isRead = tape.readInto(spare);
        tape.length = 0;
        if (!isRead) {
            latestFault = tape.faultNumber;
            return FAULTS - tape.faultPlace;
        }
        street.become(spare);
        actCount = 0;
        return street.dummyCount;
    }

    public int fault() {
        return latestFault;
    }

    public int undo() {
        Street before = actCount > 0 ? acts[latestAct] : null;
        if (before == null) {
            return STATE;
        }
        street.become(before);
        latestAct = (latestAct + MOST_ACTS - 1) % MOST_ACTS;
        actCount--;
        return actCount;
    }

    // ---- what is told, what comes

    public int tell(int mouth, int dummy, int place, int t) {
        Mouth teller = street.mouthAt(mouth);
        if (teller == null || !street.hasPlace(dummy, place) || !isTold(t)) {
            return BAD;
        }
        int padded = teller.padding(t);
        if (street.isLogFull() || !street.hasRoomFor(dummy, place, padded, t)) {
            return FULL;
        }
        keepAct();
        street.addTelling(mouth, dummy, place, t, padded);
        return street.inches[Street.at(dummy, place)];
    }

    public int year() {
        if (!street.stands) {
            return STATE;
        }
        if (street.isLogFull()) {
            return FULL;
        }
        keepAct();
        return street.addYear();
    }

    public int swap(int a, int b) {
        if (!street.hasDummy(a) || !street.hasDummy(b) || a == b) {
            return BAD;
        }
        if (street.isLogFull()) {
            return FULL;
        }
        keepAct();
        street.addSwap(Math.min(a, b), Math.max(a, b));
        return street.lineCount;
    }

    public int close() {
        if (!street.stands) {
            return STATE;
        }
        keepAct();
        return street.endLog();
    }

    public int dummy(int dummy, int place, int what) {
        if (!street.hasPlace(dummy, place)) {
            return BAD;
        }
        int at = Street.at(dummy, place);
        switch (what) {
            case 0: return street.inches[at];
            case 1: return street.made[at];
            case 2: return street.customers[at];
            case 3: return street.pinch(at);
            default: return BAD;
        }
    }

    public int line(int line, int what) {
        if (line < 0 || line >= street.lineCount || what < 0 || what >= Street.PARTS) {
            return BAD;
        }
        return street.part(line, what);
    }

    public int pads(int mouth, int t) {
        Mouth teller = street.mouthAt(mouth);
        if (teller == null || !isTold(t)) {
            return BAD;
        }
        return teller.padding(t);
    }

    // ---- foretold

    public int was(int n, int dummy, int place) {
        if (n < 0 || n > street.lineCount || !street.hasPlace(dummy, place)) {
            return BAD;
        }
        spare.become(street);
        spare.goBackTo(n);
        return spare.inches[Street.at(dummy, place)];
    }

    public int liars(int dummy, int row, int i, int what) {
        if (!street.hasDummy(dummy) || !Rows.isRow(row) || !isFirstOrSecond(what)) {
            return BAD;
        }
        int finding = rows.findingAt(row, i, PLACES);
        if (finding != 0) {
            return found(finding);
        }
        int fitting = foretold.fittingSets(street, dummy, rows, row, i);
        return answered(what == 0 ? Integer.bitCount(fitting) : foretold.fewestOf(fitting));
    }

    public int blame(int dummy, int mouth, int row, int i, int what) {
        if (!street.hasDummy(dummy) || street.mouthAt(mouth) == null
                || !Rows.isRow(row) || !isFirstOrSecond(what)) {
            return BAD;
        }
        int finding = rows.findingAt(row, i, PLACES);
        if (finding != 0) {
            return found(finding);
        }
        int fitting = foretold.fittingSets(street, dummy, rows, row, i);
        if (fitting == 0) {
            return answered(NONE);
        }
        int with = foretold.setsWith(fitting, mouth);
        return answered(foretold.fraction(with, Integer.bitCount(fitting), what));
    }

    public int right(int dummy, int what) {
        if (!street.hasDummy(dummy) || what < 0 || what > 2 * PLACES) {
            return BAD;
        }
        return foretold.rightBy(street, dummy, what);
    }

    public int most(int dummy, int place, int what) {
        if (!street.hasPlace(dummy, place) || !isFirstOrSecond(what)) {
            return BAD;
        }
        return foretold.mostPadding(street, dummy, place, what);
    }

    public int swaps(int row, int i, int what) {
        if (!street.stands) {
            return STATE;
        }
        if (!Rows.isRow(row) || !isFirstOrSecond(what)) {
            return BAD;
        }
        int finding = rows.findingAt(row, i, PLACES * street.dummyCount);
        if (finding != 0) {
            return found(finding);
        }
        return answered(foretold.swapsThatGive(street, rows, row, i, what));
    }

    public int lent(int k, int what) {
        if (!street.stands) {
            return STATE;
        }
        if (!isImage(k) || !isFirstOrSecond(what)) {
            return BAD;
        }
        Street image = images[k];
        if (image == null || image.dummyCount != street.dummyCount) {
            return STATE;
        }
        return what == 0 ? foretold.otherPlaces(street, image) : foretold.unlikeness(street, image);
    }

    public int parted(int a, int b, int sum, int what) {
        Mouth one = street.mouthAt(a);
        Mouth other = street.mouthAt(b);
        if (one == null || other == null || a == b || !isFirstOrSecond(what)
                || sum < -MOST_PARTED_SUM || sum > MOST_PARTED_SUM) {
            return BAD;
        }
        return foretold.waysToPart(one, other, sum, what);
    }

    public int addedUp(int dummy, int s, int what) {
        if (!street.hasDummy(dummy) || s < 0 || s > PLACES * MOST_REPAIRED || !isFirstOrSecond(what)) {
            return BAD;
        }
        int repaired = foretold.fewestRepairs(street, dummy, s);
        return repaired == NONE || what == 1 ? repaired : Integer.bitCount(repaired);
    }

    public int felt(int place, int b, int what) {
        if (!street.stands) {
            return STATE;
        }
        if (place < 0 || place >= PLACES || b < 1 || b > LONGEST_BOLT || !isFirstOrSecond(what)) {
            return BAD;
        }
        int bolts = foretold.fewestBolts(street, place, b);
        return bolts == NONE || what == 0 ? bolts : bolts * b - foretold.feltNeeded(street, place);
    }

    public int twins(int dummy) {
        if (!street.stands) {
            return STATE;
        }
        if (dummy != -1 && !street.hasDummy(dummy)) {
            return BAD;
        }
        int partner = foretold.partnerOfFirst(street);
        if (dummy == -1) {
            return foretold.unlikePairs(street, partner);
        }
        return foretold.partnerOf(street, partner, dummy);
    }

    public int image(int k) {
        if (!isImage(k)) {
            return BAD;
        }
        if (!street.stands) {
            return STATE;
        }
        images[k] = copyOver(images[k]);
        return 1;
    }

    public int restore(int k) {
        if (!isImage(k)) {
            return BAD;
        }
        Street image = images[k];
        if (image == null) {
            return STATE;
        }
        street.become(image);
        actCount = 0;
        return 1;
    }

    // ---- asked

    public int kind(int one) {
        Mouth mouth = street.mouthAt(one);
        return mouth == null ? BAD : mouth.sort();
    }

    public int as(int one, int kind) {
        Mouth mouth = street.mouthAt(one);
        if (mouth == null || kind < MOUTH || kind > SPY) {
            return BAD;
        }
        return isOne(mouth, kind) ? answered(mouth.number) : found(KIND);
    }

    public int ask(int one, int what) {
        Mouth mouth = street.mouthAt(one);
        if (mouth == null || !isFirstOrSecond(what)) {
            return BAD;
        }
        asking.startFor(street.tellingsBy(one));
        return what == 0 ? mouth.size(asking) : mouth.mark(asking);
    }

    public int trace(int i) {
        return asking.bodyAt(i);
    }

    public int count(int what) {
        switch (what) {
            case 0: return rows.there();
            case 1: return street.dummyCount;
            case 2: return street.mouthCount;
            case 3: return street.lineCount;
            case 4: return street.years();
            case 5: return actCount;
            case 6: return tape.length;
            default: return BAD;
        }
    }

    public int status() {
        return latestFinding;
    }

    private int found(int finding) {
        latestFinding = finding;
        return FINDINGS - finding;
    }

    private int answered(int answer) {
        latestFinding = 0;
        return answer;
    }

    // The ring's oldest place is written over, so that the oldest act is the one forgotten.
    private void keepAct() {
        latestAct = (latestAct + 1) % MOST_ACTS;
        acts[latestAct] = copyOver(acts[latestAct]);
        actCount = Math.min(actCount + 1, MOST_ACTS);
    }

    // An old copy is used again: what a run makes is counted.
    private Street copyOver(Street old) {
        Street copied = old == null ? new Street() : old;
        copied.become(street);
        return copied;
    }

    private static boolean isTold(int t) {
        return t >= -MOST_TOLD && t <= MOST_TOLD;
    }

    private static boolean isFirstOrSecond(int what) {
        return what == 0 || what == 1;
    }

    private static boolean isImage(int k) {
        return k >= 0 && k < MOST_IMAGES;
    }

    private static boolean isOne(Mouth mouth, int kind) {
        switch (kind) {
            case VALET: return mouth instanceof Valet;
            case COOK: return mouth instanceof Cook;
            case RIVAL: return mouth instanceof Rival;
            case GOSSIP: return mouth instanceof Gossip;
            case SPY: return mouth instanceof Spy;
            default: return true;
        }
    }

    private static final class Rows {
        static final int MOST_ROWS = 8, MOST_ITEMS = 40;
        static final int BYTES = 0, SHORTS = 1, INTS = 2;

        private final int[][] items = new int[MOST_ROWS][MOST_ITEMS];
        private final int[] lanes = new int[MOST_ROWS];
        private final int[] sizes = new int[MOST_ROWS];
        private final boolean[] isThere = new boolean[MOST_ROWS];

        static boolean isRow(int row) {
            return row >= 0 && row < MOST_ROWS;
        }

        static boolean isLane(int lane) {
            return lane >= BYTES && lane <= INTS;
        }

        boolean isMissing(int row) {
            return !isThere[row];
        }

        void lay(int row, int lane, int n) {
            isThere[row] = true;
            lanes[row] = lane;
            sizes[row] = n;
            Arrays.fill(items[row], 0);
        }

        int lose(int row) {
            isThere[row] = false;
            return sizes[row];
        }

        int findingAt(int row, int i, int n) {
            if (isMissing(row)) {
                return NULL;
            }
            return holds(row, i, n) ? 0 : PLACE;
        }

        int findingOfMove(int a, int i, int b, int j, int n) {
            if (isMissing(a) || isMissing(b)) {
                return NULL;
            }
            if (lanes[a] != lanes[b]) {
                return STORE;
            }
            return holds(a, i, n) && holds(b, j, n) ? 0 : PLACE;
        }

        // Subtracted, not added: i and n may be as great as an int can be.
        private boolean holds(int row, int i, int n) {
            return i >= 0 && n >= 0 && i <= sizes[row] && n <= sizes[row] - i;
        }

        void move(int a, int i, int b, int j, int n) {
            System.arraycopy(items[a], i, items[b], j, n);
        }

        int put(int row, int i, int v) {
            items[row][i] = cut(v, lanes[row]);
            return items[row][i];
        }

        private static int cut(int v, int lane) {
            switch (lane) {
                case BYTES: return (byte) v;
                case SHORTS: return (short) v;
                default: return v;
            }
        }

        int item(int row, int i) {
            return items[row][i];
        }

        int there() {
            int n = 0;
            for (int row = 0; row < MOST_ROWS; row++) {
                if (isThere[row]) {
                    n++;
                }
            }
            return n;
        }
    }

    private static final class Tape {
        static final int ROOM = 140, MOST_FIGURES = 2;
        static final int LEAST_SHRINK = 2, MOST_SHRINK = 20, MOST_NUMBER = 99;

        private final int[] bytes = new int[ROOM];
        int length;
        int faultNumber;
        int faultPlace;
        private int next;
        private int number;

        boolean isFull() {
            return length >= ROOM;
        }

        int add(int letter) {
            bytes[length] = letter;
            length++;
            return length;
        }

        boolean readInto(Street street) {
            next = 0;
            street.empty();
            return readLaw(street) && readDummies(street) && readMouths(street);
        }

        private boolean readLaw(Street street) {
            if (!readByte('w') || !readNumber(LEAST_SHRINK, MOST_SHRINK) || !readByte(';')) {
                return false;
            }
            street.shrink = number;
            return true;
        }

        private boolean readDummies(Street street) {
            for (int n = 0; n <= MOST_DUMMIES && comes('d'); n++) {
                if (n == MOST_DUMMIES) {
                    return isFault(NO_ROOM);
                }
                next++;
                if (!readInches(street, n)) {
                    return false;
                }
                street.dummyCount = n + 1;
            }
            return true;
        }

        private boolean readInches(Street street, int dummy) {
            for (int place = 0; place < PLACES; place++) {
                char sign = place == PLACES - 1 ? ';' : ',';
                if (!readNumber(0, MOST_NUMBER) || !readByte(sign)) {
                    return false;
                }
                street.make(Street.at(dummy, place), number);
            }
            return true;
        }

        private boolean readMouths(Street street) {
            for (int n = 0; n <= MOST_MOUTHS && next < length; n++) {
                int kind = kindOf(bytes[next]);
                if (kind == NONE) {
                    return isFault(CANNOT_STAND);
                }
                if (n == MOST_MOUTHS) {
                    return isFault(NO_ROOM);
                }
                next++;
                if (!readNumber(0, MOST_NUMBER) || !readByte(';')) {
                    return false;
                }
                street.addMouth(kind, number);
            }
            return true;
        }

        private static int kindOf(int letter) {
            switch (letter) {
                case 'v': return VALET;
                case 'k': return COOK;
                case 'r': return RIVAL;
                case 'g': return GOSSIP;
                case 's': return SPY;
                default: return NONE;
            }
        }

        private boolean comes(char wanted) {
            return next < length && bytes[next] == wanted;
        }

        private boolean readByte(char wanted) {
            if (!comes(wanted)) {
                return isFault(CANNOT_STAND);
            }
            next++;
            return true;
        }

        private boolean readNumber(int least, int most) {
            int figures = 0;
            number = 0;
            while (figures <= MOST_FIGURES && isFigure(next + figures)) {
                number = 10 * number + bytes[next + figures] - '0';
                figures++;
            }
            if (figures == 0 || figures > MOST_FIGURES) {
                return isFault(CANNOT_STAND);
            }
            if (number < least || number > most) {
                return isFault(NOT_AS_TOLD);
            }
            next += figures;
            return true;
        }

        private boolean isFigure(int i) {
            return i < length && bytes[i] >= '0' && bytes[i] <= '9';
        }

        // Always false, so that a reader ends by returning it.
        private boolean isFault(int fault) {
            faultNumber = fault;
            faultPlace = next;
            return false;
        }
    }

    private static final class Street {
        static final int PARTS = 6;

        final int[] inches = new int[PLACES * MOST_DUMMIES];
        final int[] made = new int[PLACES * MOST_DUMMIES];
        final int[] customers = new int[PLACES * MOST_DUMMIES];
        private final Mouth[] mouths = new Mouth[MOST_MOUTHS];
        // The parts of a line stand as line() tells them.
        private final int[] log = new int[PARTS * MOST_LINES];
        boolean stands;
        int shrink;
        int dummyCount;
        int mouthCount;
        int lineCount;

        static int at(int dummy, int place) {
            return PLACES * dummy + place;
        }

        void become(Street other) {
            System.arraycopy(other.inches, 0, inches, 0, inches.length);
            System.arraycopy(other.made, 0, made, 0, made.length);
            System.arraycopy(other.customers, 0, customers, 0, customers.length);
            System.arraycopy(other.log, 0, log, 0, PARTS * other.lineCount);
            for (int m = 0; m < MOST_MOUTHS; m++) {
                mouths[m] = other.mouths[m];
            }
            stands = other.stands;
            shrink = other.shrink;
            dummyCount = other.dummyCount;
            mouthCount = other.mouthCount;
            lineCount = other.lineCount;
        }

        void empty() {
            stands = true;
            dummyCount = 0;
            mouthCount = 0;
            lineCount = 0;
        }

        void make(int at, int wide) {
            inches[at] = wide;
            made[at] = wide;
            customers[at] = wide;
        }

        void addMouth(int kind, int bribe) {
            mouths[mouthCount] = newMouth(kind, mouthCount, bribe);
            mouthCount++;
        }

        private static Mouth newMouth(int kind, int number, int bribe) {
            switch (kind) {
                case COOK: return new Cook(number, bribe);
                case RIVAL: return new Rival(number, bribe);
                case GOSSIP: return new Gossip(number, bribe);
                case SPY: return new Spy(number, bribe);
                default: return new Valet(number, bribe);
            }
        }

        Mouth mouthAt(int mouth) {
            return mouth >= 0 && mouth < mouthCount ? mouths[mouth] : null;
        }

        boolean hasDummy(int dummy) {
            return dummy >= 0 && dummy < dummyCount;
        }

        boolean hasPlace(int dummy, int place) {
            return hasDummy(dummy) && place >= 0 && place < PLACES;
        }

        boolean isLogFull() {
            return lineCount >= MOST_LINES;
        }

        boolean hasRoomFor(int dummy, int place, int padded, int t) {
            int at = at(dummy, place);
            return Math.abs(inches[at] + padded) <= MOST_INCHES
                    && Math.abs(customers[at] + t) <= MOST_INCHES;
        }

        int pinch(int at) {
            return customers[at] - inches[at];
        }

        void addTelling(int mouth, int dummy, int place, int t, int padded) {
            addLine(TELLING, mouth, dummy, place, t, padded);
            inches[at(dummy, place)] += padded;
            customers[at(dummy, place)] += t;
        }

        int addYear() {
            addLine(YEAR, NONE, NONE, NONE, 0, 0);
            return shrinkAll();
        }

        void addSwap(int lesser, int other) {
            addLine(SWAP, lesser, other, NONE, 0, 0);
            exchange(lesser, other);
        }

        private void addLine(int sort, int first, int second, int place, int t, int padded) {
            int start = PARTS * lineCount;
            log[start] = sort;
            log[start + 1] = first;
            log[start + 2] = second;
            log[start + 3] = place;
            log[start + 4] = t;
            log[start + 5] = padded;
            lineCount++;
        }

        private int shrinkAll() {
            int all = 0;
            for (int at = 0; at < PLACES * dummyCount; at++) {
                int more = inches[at] - made[at];
                int less = more > 0 && shrink > 0 ? more / shrink : 0;
                inches[at] -= less;
                all += less;
            }
            return all;
        }

        private void exchange(int a, int b) {
            for (int place = 0; place < PLACES; place++) {
                int held = inches[at(a, place)];
                inches[at(a, place)] = inches[at(b, place)];
                inches[at(b, place)] = held;
            }
        }

        int endLog() {
            for (int at = 0; at < PLACES * dummyCount; at++) {
                make(at, inches[at]);
            }
            int lines = lineCount;
            lineCount = 0;
            return lines;
        }

        // A log always begins with the dummies as they were made.
        void goBackTo(int lines) {
            System.arraycopy(made, 0, inches, 0, inches.length);
            for (int line = 0; line < lines; line++) {
                doAgain(line);
            }
        }

        private void doAgain(int line) {
            switch (part(line, 0)) {
                case TELLING:
                    inches[at(part(line, 2), part(line, 3))] += part(line, 5);
                    break;
                case YEAR:
                    shrinkAll();
                    break;
                default:
                    exchange(part(line, 1), part(line, 2));
                    break;
            }
        }

        int part(int line, int what) {
            return log[PARTS * line + what];
        }

        boolean isTelling(int line) {
            return part(line, 0) == TELLING;
        }

        boolean isTellingBy(int line, int mouth) {
            return isTelling(line) && part(line, 1) == mouth;
        }

        boolean isTellingOf(int line, int dummy) {
            return isTelling(line) && part(line, 2) == dummy;
        }

        int tellingsBy(int mouth) {
            int n = 0;
            for (int line = 0; line < lineCount; line++) {
                if (isTellingBy(line, mouth)) {
                    n++;
                }
            }
            return n;
        }

        int years() {
            int n = 0;
            for (int line = 0; line < lineCount; line++) {
                if (part(line, 0) == YEAR) {
                    n++;
                }
            }
            return n;
        }
    }

    private static final class Foretold {
        private final int[] slips = new int[PLACES * MOST_MOUTHS];
        private final int[] boltsFor = new int[1 << MOST_DUMMIES];

        // There are 32 sets of mouths at most, so one int tells which of them fit.
        int fittingSets(Street street, int dummy, Rows rows, int row, int i) {
            addSlips(street, dummy);
            int fitting = 0;
            for (int set = 0; set < 1 << street.mouthCount; set++) {
                boolean fits = true;
                for (int place = 0; place < PLACES; place++) {
                    fits = fits && slipOf(set, place) == rows.item(row, i + place);
                }
                fitting |= fits ? 1 << set : 0;
            }
            return fitting;
        }

        // By how much each mouth alone would make the dummy pinch.
        private void addSlips(Street street, int dummy) {
            Arrays.fill(slips, 0);
            for (int line = 0; line < street.lineCount; line++) {
                if (street.isTellingOf(line, dummy)) {
                    int at = Street.at(street.part(line, 1), street.part(line, 3));
                    slips[at] += street.part(line, 4) - street.part(line, 5);
                }
            }
        }

        private int slipOf(int set, int place) {
            int all = 0;
            for (int m = 0; m < MOST_MOUTHS; m++) {
                all += has(set, m) ? slips[Street.at(m, place)] : 0;
            }
            return all;
        }

        private static boolean has(int set, int one) {
            return (set >>> one & 1) == 1;
        }

        int fewestOf(int fitting) {
            int fewest = NONE;
            for (int set = 0; set < 1 << MOST_MOUTHS; set++) {
                if (has(fitting, set) && isFewer(set, fewest)) {
                    fewest = set;
                }
            }
            return fewest;
        }

        private static boolean isFewer(int set, int than) {
            return than == NONE || Integer.bitCount(set) < Integer.bitCount(than);
        }

        int setsWith(int fitting, int mouth) {
            int n = 0;
            for (int set = 0; set < 1 << MOST_MOUTHS; set++) {
                if (has(fitting, set) && has(set, mouth)) {
                    n++;
                }
            }
            return n;
        }

        int fraction(int above, int below, int what) {
            if (above == 0) {
                return what;
            }
            int common = above;
            while (common > 1 && (above % common != 0 || below % common != 0)) {
                common--;
            }
            return (what == 0 ? above : below) / Math.max(common, 1);
        }

        int rightBy(Street street, int dummy, int what) {
            int bribes = 0;
            int answer = NONE;
            for (int place = 0; place < PLACES; place++) {
                int pinch = street.pinch(Street.at(dummy, place));
                if (pinch == 0) {
                    continue;
                }
                Mouth teller = cheapestFor(street, pinch);
                if (teller == null) {
                    return NONE;
                }
                bribes += teller.bribe;
                if (what == 1 + place) {
                    answer = teller.number;
                } else if (what == 1 + PLACES + place) {
                    answer = leastTold(teller, pinch);
                }
            }
            return what == 0 ? bribes : answer;
        }

        private static Mouth cheapestFor(Street street, int pinch) {
            Mouth cheapest = null;
            for (int m = 0; m < street.mouthCount; m++) {
                Mouth mouth = street.mouthAt(m);
                if (mouth != null && (cheapest == null || mouth.bribe < cheapest.bribe)
                        && leastTold(mouth, pinch) != NONE) {
                    cheapest = mouth;
                }
            }
            return cheapest;
        }

        private static int leastTold(Mouth mouth, int padded) {
            for (int t = -MOST_TOLD; t <= MOST_TOLD; t++) {
                if (mouth.padding(t) == padded) {
                    return t;
                }
            }
            return NONE;
        }

        int mostPadding(Street street, int dummy, int place, int what) {
            int who = NONE;
            int most = NONE;
            for (int m = 0; m < street.mouthCount; m++) {
                int padded = paddedBy(street, m, dummy, place);
                if (padded != NONE && (who == NONE || Math.abs(padded) > Math.abs(most))) {
                    who = m;
                    most = padded;
                }
            }
            return what == 0 ? who : most;
        }

        // NONE: the mouth told nothing there, which is not the same as 0.
        private static int paddedBy(Street street, int mouth, int dummy, int place) {
            int padded = 0;
            boolean told = false;
            for (int line = 0; line < street.lineCount; line++) {
                if (street.isTellingBy(line, mouth) && street.isTellingOf(line, dummy)
                        && street.part(line, 3) == place) {
                    padded += street.part(line, 5);
                    told = true;
                }
            }
            return told ? padded : NONE;
        }

        int swapsThatGive(Street street, Rows rows, int row, int i, int what) {
            int ways = 0;
            int first = NONE;
            for (int a = 0; a < street.dummyCount; a++) {
                for (int b = a + 1; b < street.dummyCount; b++) {
                    if (gives(street, a, b, rows, row, i)) {
                        ways++;
                        first = first == NONE ? MOST_DUMMIES * a + b : first;
                    }
                }
            }
            return what == 0 ? ways : first;
        }

        private static boolean gives(Street street, int a, int b, Rows rows, int row, int i) {
            for (int dummy = 0; dummy < street.dummyCount; dummy++) {
                int from = dummy == a ? b : dummy == b ? a : dummy;
                for (int place = 0; place < PLACES; place++) {
                    int told = rows.item(row, i + Street.at(dummy, place));
                    if (street.inches[Street.at(from, place)] != told) {
                        return false;
                    }
                }
            }
            return true;
        }

        int otherPlaces(Street street, Street image) {
            int places = 0;
            for (int at = 0; at < PLACES * street.dummyCount; at++) {
                places |= street.inches[at] == image.inches[at] ? 0 : 1 << at;
            }
            return places;
        }

        int unlikeness(Street street, Street image) {
            int all = 0;
            for (int at = 0; at < PLACES * street.dummyCount; at++) {
                all += Math.abs(street.inches[at] - image.inches[at]);
            }
            return all;
        }

        int waysToPart(Mouth one, Mouth other, int sum, int what) {
            int ways = 0;
            int first = NONE;
            for (int t = -MOST_PARTED; t <= MOST_PARTED; t++) {
                int before = ways;
                int rest = sum - one.padding(t);
                for (int u = -MOST_PARTED; u <= MOST_PARTED; u++) {
                    ways += other.padding(u) == rest ? 1 : 0;
                }
                first = first == NONE && ways > before ? t : first;
            }
            return what == 0 ? ways : first;
        }

        int fewestRepairs(Street street, int dummy, int s) {
            int fewest = NONE;
            for (int places = 0; places < 1 << PLACES; places++) {
                int rest = s - sumWithout(street, dummy, places);
                boolean repairs = rest >= 0 && rest <= MOST_REPAIRED * Integer.bitCount(places);
                if (repairs && isFewer(places, fewest)) {
                    fewest = places;
                }
            }
            return fewest;
        }

        private static int sumWithout(Street street, int dummy, int places) {
            int sum = 0;
            for (int place = 0; place < PLACES; place++) {
                sum += has(places, place) ? 0 : street.inches[Street.at(dummy, place)];
            }
            return sum;
        }

        int feltNeeded(Street street, int place) {
            return stripsOf(street, place, (1 << street.dummyCount) - 1);
        }

        private static int stripsOf(Street street, int place, int dummies) {
            int all = 0;
            for (int dummy = 0; dummy < street.dummyCount; dummy++) {
                int strip = Math.max(street.inches[Street.at(dummy, place)], 0);
                all += has(dummies, dummy) ? strip : 0;
            }
            return all;
        }

        // The bolts for a set of dummies: one for some of them, and the fewest for the others.
        int fewestBolts(Street street, int place, int b) {
            int all = (1 << street.dummyCount) - 1;
            boltsFor[0] = 0;
            for (int dummies = 1; dummies <= all; dummies++) {
                boltsFor[dummies] = stripsOf(street, place, dummies) == 0 ? 0 : NONE;
                for (int some = 1; some <= dummies; some++) {
                    int others = boltsFor[dummies & ~some];
                    if ((some & ~dummies) == 0 && others != NONE && stripsOf(street, place, some) <= b) {
                        boltsFor[dummies] = fewer(boltsFor[dummies], others + 1);
                    }
                }
            }
            return boltsFor[all];
        }

        private static int fewer(int bolts, int others) {
            return bolts == NONE ? others : Math.min(bolts, others);
        }

        // With whom dummy 0 is tells the whole pairing: at most two others remain.
        // One past the last dummy stands for nobody, so that left out comes last.
        int partnerOfFirst(Street street) {
            int last = street.dummyCount % 2 == 1 ? street.dummyCount : street.dummyCount - 1;
            int best = 1;
            for (int partner = 2; partner <= last; partner++) {
                if (unlikePairs(street, partner) < unlikePairs(street, best)) {
                    best = partner;
                }
            }
            return best;
        }

        int unlikePairs(Street street, int partner) {
            int one = restBut(street, partner, 0);
            int other = one == NONE ? NONE : restBut(street, partner, one);
            return unlike(street, 0, partner) + unlike(street, one, other);
        }

        int partnerOf(Street street, int partner, int dummy) {
            if (dummy == 0) {
                return street.hasDummy(partner) ? partner : NONE;
            }
            return dummy == partner ? 0 : restBut(street, partner, dummy);
        }

        private static int restBut(Street street, int partner, int but) {
            for (int dummy = 1; dummy < street.dummyCount; dummy++) {
                if (dummy != partner && dummy != but) {
                    return dummy;
                }
            }
            return NONE;
        }

        private static int unlike(Street street, int a, int b) {
            if (!street.hasDummy(a) || !street.hasDummy(b)) {
                return 0;
            }
            int all = 0;
            for (int place = 0; place < PLACES; place++) {
                all += Math.abs(street.inches[Street.at(a, place)] - street.inches[Street.at(b, place)]);
            }
            return all;
        }
    }

    private static final class Asking {
        private static final int MOST_BODIES = 16;

        private final int[] bodies = new int[MOST_BODIES];
        private int begun;
        int tellings;

        void startFor(int itsTellings) {
            begun = 0;
            tellings = itsTellings;
        }

        void begin(int body) {
            if (begun < MOST_BODIES) {
                bodies[begun] = body;
                begun++;
            }
        }

        int bodyAt(int i) {
            return i >= 0 && i < begun ? bodies[i] : NONE;
        }
    }

    private abstract static class Mouth {
        final int number;
        final int bribe;

        Mouth(int number, int bribe) {
            this.number = number;
            this.bribe = bribe;
        }

        abstract int sort();

        abstract int padding(int t);

        int size(Asking asking) {
            asking.begin(10);
            return bribe;
        }

        int mark(Asking asking) {
            asking.begin(20);
            return number;
        }
    }

    private static class Valet extends Mouth {
        Valet(int number, int bribe) {
            super(number, bribe);
        }

        int sort() {
            return VALET;
        }

        int padding(int t) {
            return t;
        }

        int size(Asking asking) {
            asking.begin(11);
            return super.size(asking) + mark(asking);
        }

        int mark(Asking asking) {
            asking.begin(21);
            return super.mark(asking) + asking.tellings;
        }
    }

    private static final class Cook extends Valet {
        Cook(int number, int bribe) {
            super(number, bribe);
        }

        int sort() {
            return COOK;
        }

        int padding(int t) {
            return t > 0 ? 2 * t : t;
        }

        int size(Asking asking) {
            asking.begin(12);
            return -super.size(asking);
        }

        int mark(Asking asking) {
            asking.begin(24);
            return 2 * super.mark(asking);
        }
    }

    private static final class Rival extends Valet {
        Rival(int number, int bribe) {
            super(number, bribe);
        }

        int sort() {
            return RIVAL;
        }

        int padding(int t) {
            return -t;
        }

        int mark(Asking asking) {
            asking.begin(22);
            return super.mark(asking) - 1000;
        }
    }

    private static class Gossip extends Mouth {
        Gossip(int number, int bribe) {
            super(number, bribe);
        }

        int sort() {
            return GOSSIP;
        }

        int padding(int t) {
            return t / 2;
        }

        int size(Asking asking) {
            asking.begin(13);
            return super.size(asking) - 100;
        }

        int mark(Asking asking) {
            asking.begin(23);
            return super.mark(asking) - size(asking);
        }
    }

    private static final class Spy extends Gossip {
        Spy(int number, int bribe) {
            super(number, bribe);
        }

        int sort() {
            return SPY;
        }

        int padding(int t) {
            return -(t / 2);
        }

        int size(Asking asking) {
            asking.begin(14);
            return 2 * super.size(asking);
        }
    }
}
