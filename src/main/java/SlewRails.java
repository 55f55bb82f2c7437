import java.util.Arrays;

/**
 * A curve of a rail put right by slews, as ../shared/DOC.md tells it. Every refusal and finding is an
 * answer, never an exception.
 */
public final class SlewRails {
    public static final int NONE = -1000000, BAD = -1000001, STATE = -1000002, FULL = -1000003;

    private static final int NULL = 1, PLACE = 2, NOT_THAT = 3, SIZE = 4, STORE = 5, OVER = 6;
    private static final int FINDINGS = -1000010, FAULTS = -1000100;

    private static final int MOST_ROWS = 8, MOST_ITEMS = 40, MOST_BYTES = 120;
    private static final int MOST_PEGS = 12, FEWEST_PEGS = 3;
    private static final int MOST_VERSINE = 60, MOST_BOUND = 3, MOST_MADE = 999;
    private static final int MOST_ACTS = 24, MOST_IMAGES = 2, MOST_WORKED = 999, MOST_TRACE = 16;
    private static final int MOST_CHANCE = 99, MOST_YEARS = 60, MOST_SEED = 999999;

    private static final int PLAIN = 1, SOFT = 2, JOINT = 3, BRIDGE = 4, END = 5;

    /** Of each KIND the next KIND that it is, too. */
    private static final int[] ALSO = {-1, 0, PLAIN, PLAIN, 0, BRIDGE};

    private final Row[] rows = new Row[MOST_ROWS];
    private final Tape tape = new Tape();
    private final Rail rail = new Rail();
    /** Takes what is only tried: a text that may have a FAULT, and all that is FORETOLD. */
    private final Rail draft = new Rail();
    private final Rail[] images = new Rail[MOST_IMAGES];
    private final History history = new History();
    private final Asks asks = new Asks();
    private final Settling settling = new Settling();
    /** Made with the first best(), as its table is large and many objects never need it. */
    private Search search = null;
    private int status = 0;

    public SlewRails() {
        for (int r = 0; r < MOST_ROWS; r++) {
            rows[r] = new Row();
        }
        for (int k = 0; k < MOST_IMAGES; k++) {
            images[k] = new Rail();
        }
    }

    // ---- rows

    public int row(int row, int lane, int n) {
        if (!isRow(row) || !isWithin(lane, 0, Row.INTS) || n > MOST_ITEMS) {
            return BAD;
        }
        if (n < 0) {
            return found(SIZE);
        }
        rows[row].begin(lane, n);
        return fine(n);
    }

    public int set(int row, int i, int v) {
        if (!isRow(row)) {
            return BAD;
        }
        Row to = rows[row];
        if (to.isMissing()) {
            return found(NULL);
        }
        if (!to.holds(i, 1)) {
            return found(PLACE);
        }
        return fine(to.put(i, v));
    }

    public int copy(int a, int i, int b, int j, int n) {
        if (!isRow(a) || !isRow(b)) {
            return BAD;
        }
        Row from = rows[a];
        Row to = rows[b];
        if (from.isMissing() || to.isMissing()) {
            return found(NULL);
        }
        if (from.lane != to.lane) {
            return found(STORE);
        }
        if (!from.holds(i, n) || !to.holds(j, n)) {
            return found(PLACE);
        }
        System.arraycopy(from.items, i, to.items, j, n);
        return fine(n);
    }

    public int drop(int row) {
        if (!isRow(row)) {
            return BAD;
        }
        if (rows[row].isMissing()) {
            return found(NULL);
        }
        return fine(rows[row].end());
    }

    // ---- rails, acts

    public int feed(int letter) {
        if (!isWithin(letter, 0, 255)) {
            return BAD;
        }
        if (tape.isFull()) {
            return FULL;
        }
        return tape.append(letter);
    }

    public int rail() {
        boolean isRead = tape.parse(draft);
        tape.clear();
        if (!isRead) {
            return FAULTS - tape.faultPlace;
        }
        rail.become(draft);
        history.forget();
        return rail.pegs;
    }

    public int fault() {
        return tape.fault;
    }

    public int lay(int peg, int v) {
        if (!isPeg(peg) || !isWithin(v, -MOST_BOUND, MOST_BOUND)) {
            return BAD;
        }
        if (Math.abs(v) > rail.reach(peg)) {
            return STATE;
        }
        int was = rail.slews[peg];
        laySlew(peg, v);
        return was;
    }

    public int work() {
        if (!rail.isThere()) {
            return STATE;
        }
        history.keep(rail);
        int moved = rail.moved();
        rail.workIn();
        if (rail.worked < MOST_WORKED) {
            rail.worked++;
        }
        return moved;
    }

    public int gang(int peg, int n) {
        if (!isPeg(peg) || !isWithin(n, 1, MOST_PEGS)) {
            return BAD;
        }
        int end = Math.min(peg + n, rail.pegs);
        for (int p = peg; p < end; p++) {
            laySlew(p, rail.evenestSlew(p));
        }
        return rail.worst();
    }

    public int read(int peg, int v) {
        if (!isPeg(peg) || !isWithin(v, 0, MOST_VERSINE)) {
            return BAD;
        }
        history.keep(rail);
        int was = rail.versines[peg];
        rail.versines[peg] = v;
        return was;
    }

    public int bound(int peg, int v) {
        if (!isPeg(peg) || !isWithin(v, 0, MOST_BOUND)) {
            return BAD;
        }
        history.keep(rail);
        int was = rail.bounds[peg];
        rail.bounds[peg] = v;
        int reach = rail.reach(peg);
        rail.slews[peg] = Math.max(-reach, Math.min(reach, rail.slews[peg]));
        return was;
    }

    public int undo() {
        if (history.held == 0) {
            return STATE;
        }
        history.bringBack(rail);
        return history.held;
    }

    public int peg(int peg, int what) {
        if (!isPeg(peg)) {
            return BAD;
        }
        switch (what) {
            case 0: return rail.versines[peg];
            case 1: return rail.bounds[peg];
            case 2: return rail.reach(peg);
            case 3: return rail.slews[peg];
            case 4: return rail.now(peg);
            case 5: return peg == rail.pegs - 1 ? NONE : rail.step(peg);
            case 6: return rail.wish(peg);
            case 7: return rail.secondSum(peg);
            default: return BAD;
        }
    }

    // ---- foretold

    public int line(int what) {
        if (!rail.isThere()) {
            return STATE;
        }
        switch (what) {
            case 0: return rail.worst();
            case 1: return rail.uneven();
            case 2: return rail.allNow();
            case 3: return rail.allSlews();
            case 4: return rail.closes() ? 1 : 0;
            default: return BAD;
        }
    }

    public int best(int what) {
        if (!rail.isThere()) {
            return STATE;
        }
        if (!isWithin(what, 0, 2) && !isWithin(what, 10, 9 + rail.pegs)) {
            return BAD;
        }
        if (search == null) {
            search = new Search();
        }
        search.solve(rail);
        switch (what) {
            case 0: return search.worst;
            case 1: return search.uneven;
            case 2: return search.moved;
            default: return search.slews[what - 10];
        }
    }

    public int wrong(int what) {
        if (!rail.isThere()) {
            return STATE;
        }
        if (!isWithin(what, 0, 1)) {
            return BAD;
        }
        draft.become(rail);
        draft.dropSlews();
        int misread = draft.misread();
        if (misread < 0) {
            return NONE;
        }
        return what == 0 ? misread / Rail.MISREAD_BASE : misread % Rail.MISREAD_BASE;
    }

    public int moment(int w) {
        if (!rail.isThere()) {
            return STATE;
        }
        long sum = 0;
        for (int p = 0; p < rail.pegs; p++) {
            long product = (long) rail.now(p) * (p + 1) * w;
            sum += product;
            if (isBeyondInt(product) || isBeyondInt(sum)) {
                return found(OVER);
            }
        }
        return fine((int) sum);
    }

    public int fits(int peg, int row, int n, int what) {
        if (!isPeg(peg) || !isRow(row) || !isWithin(n, 1, rail.pegs) || !isWithin(what, 0, 2)) {
            return BAD;
        }
        Row told = rows[row];
        if (told.isMissing()) {
            return found(NULL);
        }
        if (!told.holds(0, n)) {
            return found(PLACE);
        }
        draft.become(rail);
        if (what == 0) {
            return fine(slewsThatFit(peg, told, n));
        }
        return fine(what == 1 ? versinesThatFit(peg, told, n) : leastVersineThatFits(peg, told, n));
    }

    public int tell(int peg, int row, int i) {
        if (!isPeg(peg) || !isRow(row)) {
            return BAD;
        }
        Row to = rows[row];
        if (to.isMissing()) {
            return found(NULL);
        }
        if (!to.holds(i, 0)) {
            return found(PLACE);
        }
        int n = Math.min(to.size - i, rail.pegs - peg);
        for (int k = 0; k < n; k++) {
            to.put(i + k, rail.now(peg + k));
        }
        return fine(n);
    }

    public long chance(int v, int c, int what) {
        if (!rail.isThere()) {
            return STATE;
        }
        if (!isWithin(v, 0, MOST_CHANCE) || !isWithin(c, 0, Settling.PARTS) || !isWithin(what, 0, 1)) {
            return BAD;
        }
        settling.solve(rail, v, c);
        return what == 0 ? settling.above : settling.below;
    }

    public int drawn(int n, int seed, int what) {
        if (!rail.isThere()) {
            return STATE;
        }
        if (!isWithin(n, 0, MOST_YEARS) || !isWithin(seed, 1, MOST_SEED) || !isWithin(what, 0, 1)) {
            return BAD;
        }
        draft.become(rail);
        int laid = draft.passYears(n, seed);
        return what == 0 ? draft.worst() : laid;
    }

    public int image(int k) {
        if (!isWithin(k, 0, MOST_IMAGES - 1)) {
            return BAD;
        }
        if (!rail.isThere()) {
            return STATE;
        }
        images[k].become(rail);
        return 1;
    }

    public int restore(int k) {
        if (!isWithin(k, 0, MOST_IMAGES - 1)) {
            return BAD;
        }
        if (!images[k].isThere()) {
            return STATE;
        }
        rail.become(images[k]);
        history.forget();
        return 1;
    }

    // ---- asked

    public int kind(int peg) {
        return isPeg(peg) ? rail.kinds[peg] : BAD;
    }

    public int as(int peg, int kind) {
        if (!isPeg(peg) || !isWithin(kind, 0, END)) {
            return BAD;
        }
        int is = rail.kinds[peg];
        for (int up = 0; up < ALSO.length && is >= 0; up++) {
            if (is == kind) {
                return fine(peg);
            }
            is = ALSO[is];
        }
        return found(NOT_THAT);
    }

    public int ask(int peg, int what) {
        if (!isPeg(peg) || !isWithin(what, Asks.SIZE_ASK, Asks.MARK_ASK)) {
            return BAD;
        }
        return asks.begin(rail, peg, what);
    }

    public int trace(int i) {
        return isWithin(i, 0, asks.left - 1) ? asks.trace[i] : NONE;
    }

    public int count(int what) {
        switch (what) {
            case 0: return rowsThere();
            case 1: return rail.pegs;
            case 2: return rail.slewed();
            case 3: return rail.worked;
            case 4: return history.held;
            case 5: return tape.length;
            default: return BAD;
        }
    }

    public int status() {
        return status;
    }

    // ---- what the calls share

    private static boolean isWithin(int v, int least, int most) {
        return v >= least && v <= most;
    }

    private static boolean isBeyondInt(long v) {
        return v < Integer.MIN_VALUE || v > Integer.MAX_VALUE;
    }

    private static boolean isRow(int row) {
        return isWithin(row, 0, MOST_ROWS - 1);
    }

    private boolean isPeg(int peg) {
        return isWithin(peg, 0, rail.pegs - 1);
    }

    private int found(int finding) {
        status = finding;
        return FINDINGS - finding;
    }

    private int fine(int answer) {
        status = 0;
        return answer;
    }

    private void laySlew(int peg, int v) {
        history.keep(rail);
        rail.slews[peg] = v;
    }

    private int rowsThere() {
        int there = 0;
        for (int r = 0; r < MOST_ROWS; r++) {
            if (!rows[r].isMissing()) {
                there++;
            }
        }
        return there;
    }

    private int slewsThatFit(int peg, Row told, int n) {
        int reach = draft.reach(peg);
        int fitting = 0;
        for (int v = -reach; v <= reach; v++) {
            draft.slews[peg] = v;
            if (told.tellsNow(draft, n)) {
                fitting |= 1 << (v + MOST_BOUND);
            }
        }
        return fitting;
    }

    private int versinesThatFit(int peg, Row told, int n) {
        int fitting = 0;
        for (int v = 0; v <= MOST_VERSINE; v++) {
            draft.versines[peg] = v;
            if (told.tellsNow(draft, n)) {
                fitting++;
            }
        }
        return fitting;
    }

    private int leastVersineThatFits(int peg, Row told, int n) {
        for (int v = 0; v <= MOST_VERSINE; v++) {
            draft.versines[peg] = v;
            if (told.tellsNow(draft, n)) {
                return v;
            }
        }
        return NONE;
    }

    /** A ROW; one that is missing keeps its items, so that none is made anew when it comes again. */
    private static final class Row {
        static final int MISSING = -1, BYTES = 0, SHORTS = 1, INTS = 2;

        int lane = MISSING;
        int size = 0;
        final int[] items = new int[MOST_ITEMS];

        boolean isMissing() {
            return lane == MISSING;
        }

        void begin(int newLane, int n) {
            lane = newLane;
            size = n;
            Arrays.fill(items, 0);
        }

        int end() {
            int had = size;
            lane = MISSING;
            size = 0;
            return had;
        }

        /** Whether n ITEMS from i on are there; no sum is made, as it could wrap. */
        boolean holds(int i, int n) {
            return i >= 0 && n >= 0 && i <= size && n <= size - i;
        }

        int put(int i, int v) {
            items[i] = lane == BYTES ? (byte) v : lane == SHORTS ? (short) v : v;
            return items[i];
        }

        boolean tellsNow(Rail by, int n) {
            for (int p = 0; p < n; p++) {
                if (items[p] != by.now(p)) {
                    return false;
                }
            }
            return true;
        }
    }

    /** The bytes of a text, and how they are read: one TOKEN behind the other. */
    private static final class Tape {
        static final int CANNOT_STAND = 1, NOT_AS_TOLD = 2, NO_ROOM = 3, TOO_FEW = 4;
        /** The TOKENS of a peg, in their order. */
        static final int SORT = 0, VERSINE = 1, COMMA = 2, BOUND = 3, SEMICOLON = 4, TOKENS = 5;
        static final int MOST_FIGURES = 2;

        final int[] bytes = new int[MOST_BYTES];
        int length = 0;
        int fault = 0;
        int faultPlace = 0;

        boolean isFull() {
            return length >= MOST_BYTES;
        }

        int append(int letter) {
            bytes[length] = letter;
            length++;
            return length;
        }

        void clear() {
            length = 0;
        }

        /** Reads all into a RAIL; false behind a FAULT, the RAIL is not whole then. */
        boolean parse(Rail into) {
            into.clear();
            int token = SORT;
            int kind = 0;
            int versine = 0;
            int at = 0;
            while (at < length) {
                int wrong = faultAt(at, token, into);
                if (wrong != 0) {
                    return fail(wrong, at);
                }
                if (token == SORT) {
                    kind = kindOf(bytes[at]);
                } else if (token == VERSINE) {
                    versine = numberAt(at);
                } else if (token == BOUND) {
                    into.add(kind, versine, numberAt(at));
                }
                token = (token + 1) % TOKENS;
                at += Math.max(1, figuresAt(at));
            }
            if (token != SORT || into.pegs == 0) {
                return fail(CANNOT_STAND, length);
            }
            return into.pegs >= FEWEST_PEGS || fail(TOO_FEW, length);
        }

        private boolean fail(int number, int place) {
            fault = number;
            faultPlace = place;
            return false;
        }

        /** The FAULT of what begins at a place, if this TOKEN should; 0 if it has none. */
        private int faultAt(int at, int token, Rail into) {
            switch (token) {
                case SORT:
                    if (kindOf(bytes[at]) == 0) {
                        return CANNOT_STAND;
                    }
                    return into.pegs >= MOST_PEGS ? NO_ROOM : 0;
                case VERSINE:
                    return faultOfNumber(at, MOST_VERSINE);
                case BOUND:
                    return faultOfNumber(at, MOST_BOUND);
                case COMMA:
                    return bytes[at] == ',' ? 0 : CANNOT_STAND;
                default:
                    return bytes[at] == ';' ? 0 : CANNOT_STAND;
            }
        }

        private int faultOfNumber(int at, int most) {
            int figures = figuresAt(at);
            if (figures == 0 || figures > MOST_FIGURES) {
                return CANNOT_STAND;
            }
            return numberAt(at) > most ? NOT_AS_TOLD : 0;
        }

        private static int kindOf(int letter) {
            switch (letter) {
                case 'p': return PLAIN;
                case 's': return SOFT;
                case 'j': return JOINT;
                case 'b': return BRIDGE;
                case 'e': return END;
                default: return 0;
            }
        }

        private int figuresAt(int at) {
            int end = at;
            while (end < length && bytes[end] >= '0' && bytes[end] <= '9') {
                end++;
            }
            return end - at;
        }

        /** The NUMBER at a place; of more figures than one may have, the first ones. */
        private int numberAt(int at) {
            int end = at + Math.min(MOST_FIGURES, figuresAt(at));
            int number = 0;
            for (int i = at; i < end; i++) {
                number = number * 10 + bytes[i] - '0';
            }
            return number;
        }
    }

    /** The PEGS of a RAIL, none at first. */
    private static final class Rail {
        static final int MISREAD_BASE = 64;
        static final int YEARS_EACH = 5, SLEWS_DRAWN = 7;
        static final long FACTOR = 16807, MODULUS = 2147483647;

        int pegs = 0;
        int worked = 0;
        final int[] kinds = new int[MOST_PEGS];
        final int[] versines = new int[MOST_PEGS];
        final int[] bounds = new int[MOST_PEGS];
        final int[] slews = new int[MOST_PEGS];

        boolean isThere() {
            return pegs > 0;
        }

        void clear() {
            pegs = 0;
            worked = 0;
        }

        void add(int kind, int versine, int bound) {
            if (pegs >= MOST_PEGS) {
                return;
            }
            kinds[pegs] = kind;
            versines[pegs] = versine;
            bounds[pegs] = bound;
            slews[pegs] = 0;
            pegs++;
        }

        void become(Rail other) {
            pegs = other.pegs;
            worked = other.worked;
            System.arraycopy(other.kinds, 0, kinds, 0, pegs);
            System.arraycopy(other.versines, 0, versines, 0, pegs);
            System.arraycopy(other.bounds, 0, bounds, 0, pegs);
            System.arraycopy(other.slews, 0, slews, 0, pegs);
        }

        /** Whether all but the SLEWS is the same: what is searched within REACH hangs on no more. */
        boolean isLike(Rail other) {
            if (pegs != other.pegs) {
                return false;
            }
            for (int p = 0; p < pegs; p++) {
                if (kinds[p] != other.kinds[p] || versines[p] != other.versines[p]
                        || bounds[p] != other.bounds[p]) {
                    return false;
                }
            }
            return true;
        }

        /** The REACH of a PEG; 0 of one beyond the RAIL, as nothing stands there that could be slewed. */
        int reach(int peg) {
            if (peg < 0 || peg >= pegs || kinds[peg] == BRIDGE || kinds[peg] == END) {
                return 0;
            }
            return kinds[peg] == SOFT ? Math.max(0, bounds[peg] - 1) : bounds[peg];
        }

        /** The SLEW of a PEG; 0 of one beyond the RAIL. */
        int slewAt(int peg) {
            return peg < 0 || peg >= pegs ? 0 : slews[peg];
        }

        /** The SLEW of a PEG when it has settled: of a soft one half of it (cut) went back. */
        int settledAt(int peg) {
            int slew = slewAt(peg);
            return isSoft(peg) ? slew - slew / 2 : slew;
        }

        boolean isSoft(int peg) {
            return peg >= 0 && peg < pegs && kinds[peg] == SOFT;
        }

        int now(int peg) {
            return versines[peg] + 2 * slews[peg] - slewAt(peg - 1) - slewAt(peg + 1);
        }

        /** Whether the STEP of a PEG is 0 whatever its NOW: a joint is beside it, or there is no next one. */
        boolean isEased(int peg) {
            return peg < 0 || peg >= pegs - 1 || kinds[peg] == JOINT || kinds[peg + 1] == JOINT;
        }

        int step(int peg) {
            return isEased(peg) ? 0 : Math.abs(now(peg) - now(peg + 1));
        }

        int worst() {
            int worst = 0;
            for (int p = 0; p < pegs - 1; p++) {
                worst = Math.max(worst, step(p));
            }
            return worst;
        }

        int uneven() {
            int uneven = 0;
            for (int p = 0; p < pegs - 1; p++) {
                uneven += step(p);
            }
            return uneven;
        }

        int allNow() {
            int all = 0;
            for (int p = 0; p < pegs; p++) {
                all += now(p);
            }
            return all;
        }

        int allSlews() {
            int all = 0;
            for (int p = 0; p < pegs; p++) {
                all += slews[p];
            }
            return all;
        }

        int moved() {
            int moved = 0;
            for (int p = 0; p < pegs; p++) {
                moved += Math.abs(slews[p]);
            }
            return moved;
        }

        int slewed() {
            int slewed = 0;
            for (int p = 0; p < pegs; p++) {
                if (slews[p] != 0) {
                    slewed++;
                }
            }
            return slewed;
        }

        void dropSlews() {
            Arrays.fill(slews, 0);
        }

        void workIn() {
            for (int p = 0; p < pegs; p++) {
                slews[p] = settledAt(p);
            }
            for (int p = 0; p < pegs; p++) {
                versines[p] = Math.max(-MOST_MADE, Math.min(MOST_MADE, now(p)));
            }
            dropSlews();
        }

        /** The SLEW that a GANG lays to a PEG; they are tried from 0 outward, so that the first one stays. */
        int evenestSlew(int peg) {
            int there = slews[peg];
            int watched = Math.max(0, peg - 1);
            int tries = 2 * reach(peg) + 1;
            int evenest = 0;
            int least = Integer.MAX_VALUE;
            for (int k = 0; k < tries; k++) {
                int slew = k % 2 == 1 ? -(k + 1) / 2 : k / 2;
                slews[peg] = slew;
                int step = step(watched);
                if (step < least) {
                    least = step;
                    evenest = slew;
                }
            }
            slews[peg] = there;
            return evenest;
        }

        int wish(int peg) {
            if (pegs < 2) {
                return versines[peg];
            }
            return (versines[pegs - 1] - versines[0]) * peg / (pegs - 1) + versines[0];
        }

        int secondSum(int peg) {
            int sum = 0;
            for (int p = 0; p < peg; p++) {
                sum += (wish(p) - versines[p]) * (peg - p);
            }
            return sum;
        }

        boolean closes() {
            int differences = 0;
            for (int p = 0; p < pegs; p++) {
                differences += wish(p) - versines[p];
            }
            return differences == 0 && secondSum(pegs - 1) == 0;
        }

        /**
         * The PEG that is read wrongly (times MISREAD_BASE) and the VERSINE in its place, below 0 if none
         * is; the SLEWS are 0 ahead of this. Only two STEPS hang on a VERSINE, so no others are looked at.
         */
        int misread() {
            int misread = -1;
            int most = 0;
            for (int p = 0; p < pegs; p++) {
                int there = versines[p];
                int around = step(p - 1) + step(p);
                for (int v = 0; v <= MOST_VERSINE; v++) {
                    versines[p] = v;
                    int gain = around - step(p - 1) - step(p);
                    if (gain > most) {
                        most = gain;
                        misread = p * MISREAD_BASE + v;
                    }
                }
                versines[p] = there;
            }
            return misread;
        }

        /** YEARS of n times by a seed: how often a SLEW was laid. */
        int passYears(int n, int seed) {
            long x = seed;
            int laid = 0;
            for (int time = 1; time <= n && pegs > 0; time++) {
                x = x * FACTOR % MODULUS;
                int peg = (int) (x % pegs);
                int slew = (int) (x % SLEWS_DRAWN) - MOST_BOUND;
                if (Math.abs(slew) <= reach(peg)) {
                    slews[peg] = slew;
                    laid++;
                }
                if (time % YEARS_EACH == 0) {
                    workIn();
                }
            }
            return laid;
        }
    }

    /** The ACTS that can be undone, each as the RAIL that was there ahead of it. */
    private static final class History {
        final Rail[] before = new Rail[MOST_ACTS];
        int held = 0;
        int next = 0;

        void keep(Rail rail) {
            if (before[next] == null) {
                before[next] = new Rail();
            }
            before[next].become(rail);
            next = (next + 1) % MOST_ACTS;
            held = Math.min(MOST_ACTS, held + 1);
        }

        void bringBack(Rail rail) {
            int latest = (next + MOST_ACTS - 1) % MOST_ACTS;
            if (held == 0 || before[latest] == null) {
                return;
            }
            rail.become(before[latest]);
            next = latest;
            held--;
        }

        void forget() {
            held = 0;
        }
    }

    /**
     * BEST. A STEP hangs on the SLEWS of four PEGS that lie together, so for each PEG and each choice of
     * the SLEWS of it and its neighbours the table holds what the STEPS from it on cost at least.
     */
    private static final class Search {
        /** So many SLEWS one PEG can have, and so many three can. */
        static final int WIDE = 7, CHOICES = 343;
        /** UNEVEN goes ahead of what is moved, which never comes to this. */
        static final int UNEVEN_UNIT = 64;
        static final int FAR = 1 << 28, NO_LIMIT = -1;

        /** What the latest answers are for: they are asked one by one, and found once. */
        final Rail known = new Rail();
        final int[] table = new int[MOST_PEGS * CHOICES];
        final int[] slews = new int[MOST_PEGS];
        int worst = 0;
        int uneven = 0;
        int moved = 0;
        /** Greatest STEP that is let through; NO_LIMIT: the greatest STEP itself is the cost. */
        private int limit = NO_LIMIT;

        void solve(Rail rail) {
            if (known.isLike(rail)) {
                return;
            }
            known.become(rail);
            limit = NO_LIMIT;
            fillTable();
            worst = leastOfAll();
            limit = worst;
            fillTable();
            int least = leastOfAll();
            uneven = least / UNEVEN_UNIT;
            moved = least % UNEVEN_UNIT;
            pickSlews(least);
        }

        private static int placeOf(int peg, int a, int b, int c) {
            return peg * CHOICES + ((a + MOST_BOUND) * WIDE + b + MOST_BOUND) * WIDE + c + MOST_BOUND;
        }

        private void fillTable() {
            int last = known.pegs - 1;
            for (int choice = 0; choice < CHOICES; choice++) {
                table[last * CHOICES + choice] = 0;
            }
            for (int p = last - 1; p >= 0; p--) {
                fillChoices(p, known.reach(p - 1), known.reach(p), known.reach(p + 1));
            }
        }

        private void fillChoices(int peg, int reachA, int reachB, int reachC) {
            for (int a = -reachA; a <= reachA; a++) {
                for (int b = -reachB; b <= reachB; b++) {
                    for (int c = -reachC; c <= reachC; c++) {
                        table[placeOf(peg, a, b, c)] = leastFrom(peg, a, b, c);
                    }
                }
            }
        }

        private int leastFrom(int peg, int a, int b, int c) {
            int reach = known.reach(peg + 2);
            boolean eased = known.isEased(peg);
            int lean = leanOf(peg, a, b, c);
            int behind = placeOf(peg + 1, b, c, 0);
            int least = FAR;
            for (int d = -reach; d <= reach; d++) {
                int cost = costOf(eased ? 0 : Math.abs(lean + d), d, table[behind + d]);
                if (cost < least) {
                    least = cost;
                }
            }
            return least;
        }

        /** NOW of a PEG less NOW of the next one, but for the SLEW of the one behind that. */
        private int leanOf(int peg, int a, int b, int c) {
            return known.versines[peg] - known.versines[peg + 1] + 3 * (b - c) - a;
        }

        private int costOf(int step, int slew, int behind) {
            if (limit == NO_LIMIT) {
                return step > behind ? step : behind;
            }
            if (step > limit || behind >= FAR) {
                return FAR;
            }
            return step * UNEVEN_UNIT + (slew < 0 ? -slew : slew) + behind;
        }

        private int costOfFirst(int b, int c) {
            int behind = table[placeOf(0, 0, b, c)];
            return limit == NO_LIMIT ? behind : behind + Math.abs(b) + Math.abs(c);
        }

        private int leastOfAll() {
            int reachB = known.reach(0);
            int reachC = known.reach(1);
            int least = FAR;
            for (int b = -reachB; b <= reachB; b++) {
                for (int c = -reachC; c <= reachC; c++) {
                    least = Math.min(least, costOfFirst(b, c));
                }
            }
            return least;
        }

        /** Of several the first: each PEG in turn gets the least SLEW that still comes to the least cost. */
        private void pickSlews(int least) {
            pickFirst(least);
            int a = 0;
            for (int p = 0; p + 2 < known.pegs; p++) {
                slews[p + 2] = pickNext(p, a, slews[p], slews[p + 1]);
                a = slews[p];
            }
        }

        private void pickFirst(int least) {
            int reachB = known.reach(0);
            int reachC = known.reach(1);
            for (int b = -reachB; b <= reachB; b++) {
                for (int c = -reachC; c <= reachC; c++) {
                    if (costOfFirst(b, c) == least) {
                        slews[0] = b;
                        slews[1] = c;
                        return;
                    }
                }
            }
        }

        private int pickNext(int peg, int a, int b, int c) {
            int reach = known.reach(peg + 2);
            int due = table[placeOf(peg, a, b, c)];
            int lean = leanOf(peg, a, b, c);
            for (int d = -reach; d <= reach; d++) {
                int step = known.isEased(peg) ? 0 : Math.abs(lean + d);
                if (costOf(step, d, table[placeOf(peg + 1, b, c, d)]) == due) {
                    return d;
                }
            }
            return 0;
        }
    }

    /**
     * CHANCE. A STEP hangs on four PEGS that lie together, so it is enough to know, PEG by PEG, how many
     * ways there are for each choice (settled or not) of the latest three.
     */
    private static final class Settling {
        static final int PARTS = 10, CHOICES = 8, MOST_DIVISIONS = 100;

        long above = 0;
        long below = 1;
        private long[] ways = new long[CHOICES];
        private long[] waysOn = new long[CHOICES];
        private int settled = 0;

        /** That WORST is v or less, if each soft PEG settles by c of PARTS, in lowest terms. */
        void solve(Rail rail, int v, int c) {
            settled = c;
            beginWays(rail);
            for (int p = 0; p < rail.pegs - 1; p++) {
                goOn(rail, p, v);
            }
            above = 0;
            for (int choice = 0; choice < CHOICES; choice++) {
                above += ways[choice];
            }
            below = 1;
            for (int p = 0; p < rail.pegs; p++) {
                below *= settles(rail, p) ? PARTS : 1;
            }
            long common = commonDivisor(below, above);
            if (common > 1) {
                above /= common;
                below /= common;
            }
        }

        /** Whether a PEG has two choices: where half of a SLEW is nothing, settling makes no difference. */
        private static boolean settles(Rail rail, int peg) {
            return rail.settledAt(peg) != rail.slewAt(peg);
        }

        private static int slewBy(Rail rail, int peg, int choice) {
            return choice == 0 ? rail.slewAt(peg) : rail.settledAt(peg);
        }

        private int waysOf(Rail rail, int peg, int choice) {
            if (!settles(rail, peg)) {
                return 1 - choice;
            }
            return choice == 0 ? PARTS - settled : settled;
        }

        private void beginWays(Rail rail) {
            Arrays.fill(ways, 0);
            for (int choice = 0; choice < 4; choice++) {
                ways[choice] = waysOf(rail, 0, choice / 2) * waysOf(rail, 1, choice % 2);
            }
        }

        private void goOn(Rail rail, int peg, int v) {
            Arrays.fill(waysOn, 0);
            for (int choice = 0; choice < 2 * CHOICES; choice++) {
                long more = ways[choice / 2] * waysOf(rail, peg + 2, choice % 2);
                if (more != 0 && stepBy(rail, peg, choice) <= v) {
                    waysOn[choice % CHOICES] += more;
                }
            }
            long[] spare = ways;
            ways = waysOn;
            waysOn = spare;
        }

        /** The STEP of a PEG by the choices of four PEGS, the one ahead of it in the highest bit. */
        private static int stepBy(Rail rail, int peg, int choice) {
            if (rail.isEased(peg)) {
                return 0;
            }
            int a = slewBy(rail, peg - 1, choice >> 3 & 1);
            int b = slewBy(rail, peg, choice >> 2 & 1);
            int c = slewBy(rail, peg + 1, choice >> 1 & 1);
            int d = slewBy(rail, peg + 2, choice & 1);
            return Math.abs(rail.versines[peg] - rail.versines[peg + 1] + 3 * (b - c) - a + d);
        }

        private static long commonDivisor(long a, long b) {
            long greater = a;
            long less = b;
            for (int k = 0; k < MOST_DIVISIONS && less != 0; k++) {
                long rest = greater % less;
                greater = less;
                less = rest;
            }
            return greater;
        }
    }

    /** ASKS, their BODIES and THE TRACE. */
    private static final class Asks {
        static final int SIZE_ASK = 0, MARK_ASK = 1;
        /** No ask of the document goes half as deep. */
        private static final int MOST_DEPTH = 16;
        /** The BODY told for each KIND, 0 where none is. */
        private static final int[] SIZE_BODIES = {10, 11, 12, 0, 13, 14};
        private static final int[] MARK_BODIES = {20, 21, 24, 22, 23, 0};

        final int[] trace = new int[MOST_TRACE];
        int left = 0;

        int begin(Rail rail, int peg, int what) {
            left = 0;
            return answer(rail, peg, what, 0);
        }

        private int answer(Rail rail, int peg, int what, int depth) {
            int kind = rail.kinds[peg];
            for (int up = 0; up < ALSO.length && kind >= 0; up++) {
                int body = what == SIZE_ASK ? SIZE_BODIES[kind] : MARK_BODIES[kind];
                if (body != 0) {
                    return run(rail, peg, body, depth);
                }
                kind = ALSO[kind];
            }
            return 0;
        }

        private int run(Rail rail, int peg, int body, int depth) {
            if (depth >= MOST_DEPTH) {
                return 0;
            }
            leave(body);
            int deeper = depth + 1;
            switch (body) {
                case 10: return rail.now(peg);
                case 11: return run(rail, peg, 10, deeper) + answer(rail, peg, MARK_ASK, deeper);
                case 12: return -run(rail, peg, 11, deeper);
                case 13: return run(rail, peg, 10, deeper) - 100;
                case 14: return 2 * run(rail, peg, 13, deeper);
                case 20: return peg;
                case 21: return run(rail, peg, 20, deeper) + rail.slews[peg];
                case 22: return run(rail, peg, 21, deeper) - 1000;
                case 23: return run(rail, peg, 20, deeper) - answer(rail, peg, SIZE_ASK, deeper);
                case 24: return 2 * run(rail, peg, 21, deeper);
                default: return 0;
            }
        }

        private void leave(int body) {
            if (left < MOST_TRACE) {
                trace[left] = body;
                left++;
            }
        }
    }
}
