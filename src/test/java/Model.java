import java.math.BigInteger;
import java.util.ArrayDeque;
import java.util.ArrayList;
import java.util.Arrays;
import java.util.List;
import java.util.regex.Matcher;
import java.util.regex.Pattern;

/** The document again, slow and plain, with the Java library: what SlewRails is compared with. */
final class Model {
    static final int NONE = -1000000, BAD = -1000001, STATE = -1000002, FULL = -1000003;
    private static final String SORTS = "?psjbe";
    private static final Pattern TOKEN = Pattern.compile("[a-z]|[0-9]+|[,;]|.", Pattern.DOTALL);
    /** More SLEWS than these are not tried one by one. */
    static final int MOST_TRIED = 3000;

    private static final class Peg {
        char sort;
        int versine;
        int bound;
        int slew;

        Peg(char sort, int versine, int bound, int slew) {
            this.sort = sort;
            this.versine = versine;
            this.bound = bound;
            this.slew = slew;
        }

        int reach() {
            return sort == 'b' || sort == 'e' ? 0 : sort == 's' ? Math.max(0, bound - 1) : bound;
        }
    }

    private static final class Curve {
        final List<Peg> pegs = new ArrayList<>();
        int worked = 0;

        Curve twin() {
            Curve twin = new Curve();
            for (Peg p : pegs) {
                twin.pegs.add(new Peg(p.sort, p.versine, p.bound, p.slew));
            }
            twin.worked = worked;
            return twin;
        }

        int[] now() {
            int n = pegs.size();
            int[] now = new int[n];
            for (int i = 0; i < n; i++) {
                now[i] += pegs.get(i).versine;
                int slew = pegs.get(i).slew;
                now[i] += 2 * slew;
                if (i > 0) {
                    now[i - 1] -= slew;
                }
                if (i < n - 1) {
                    now[i + 1] -= slew;
                }
            }
            return now;
        }

        int[] steps() {
            int[] now = now();
            int[] steps = new int[Math.max(0, now.length - 1)];
            for (int i = 0; i < steps.length; i++) {
                boolean joint = pegs.get(i).sort == 'j' || pegs.get(i + 1).sort == 'j';
                steps[i] = joint ? 0 : Math.abs(now[i] - now[i + 1]);
            }
            return steps;
        }

        int worst() {
            return Arrays.stream(steps()).max().orElse(0);
        }

        int uneven() {
            return Arrays.stream(steps()).sum();
        }

        int moved() {
            return pegs.stream().mapToInt(p -> Math.abs(p.slew)).sum();
        }

        void workIn() {
            for (Peg p : pegs) {
                if (p.sort == 's') {
                    p.slew -= p.slew / 2;
                }
            }
            int[] now = now();
            for (int i = 0; i < now.length; i++) {
                pegs.get(i).versine = Math.min(999, Math.max(-999, now[i]));
                pegs.get(i).slew = 0;
            }
        }

        int wish(int i) {
            int first = pegs.get(0).versine;
            int last = pegs.get(pegs.size() - 1).versine;
            return first + (last - first) * i / (pegs.size() - 1);
        }

        int secondSum(int i) {
            int sum = 0;
            int first = 0;
            for (int k = 0; k < i; k++) {
                first += wish(k) - pegs.get(k).versine;
                sum += first;
            }
            return sum;
        }
    }

    private final int[][] rows = new int[8][];
    private final int[] lanes = new int[8];
    private final StringBuilder tape = new StringBuilder();
    private Curve curve = new Curve();
    private final Curve[] images = new Curve[2];
    private final ArrayDeque<Curve> acts = new ArrayDeque<>();
    private final List<Integer> trace = new ArrayList<>();
    private int status = 0;
    private int fault = 0;

    private int find(int number) {
        status = number;
        return -1000010 - number;
    }

    private int fine(int answer) {
        status = 0;
        return answer;
    }

    private boolean isNoRow(int row) {
        return row < 0 || row > 7;
    }

    private boolean isNoPeg(int peg) {
        return peg < 0 || peg >= curve.pegs.size();
    }

    private boolean isOut(int v, int least, int most) {
        return v < least || v > most;
    }

    private static int narrow(int lane, int v) {
        return lane == 0 ? (byte) v : lane == 1 ? (short) v : v;
    }

    int row(int row, int lane, int n) {
        if (isNoRow(row) || isOut(lane, 0, 2) || n > 40) return BAD;
        if (n < 0) return find(4);
        rows[row] = new int[n];
        lanes[row] = lane;
        return fine(n);
    }

    int set(int row, int i, int v) {
        if (isNoRow(row)) return BAD;
        if (rows[row] == null) return find(1);
        if (isOut(i, 0, rows[row].length - 1)) return find(2);
        rows[row][i] = narrow(lanes[row], v);
        return fine(rows[row][i]);
    }

    int copy(int a, int i, int b, int j, int n) {
        if (isNoRow(a) || isNoRow(b)) return BAD;
        if (rows[a] == null || rows[b] == null) return find(1);
        if (lanes[a] != lanes[b]) return find(5);
        if (i < 0 || j < 0 || n < 0 || (long) i + n > rows[a].length || (long) j + n > rows[b].length) return find(2);
        int[] taken = Arrays.copyOfRange(rows[a], i, i + n);
        for (int k = 0; k < n; k++) {
            rows[b][j + k] = taken[k];
        }
        return fine(n);
    }

    int drop(int row) {
        if (isNoRow(row)) return BAD;
        if (rows[row] == null) return find(1);
        int had = rows[row].length;
        rows[row] = null;
        return fine(had);
    }

    int feed(int letter) {
        if (isOut(letter, 0, 255)) return BAD;
        if (tape.length() == 120) return FULL;
        tape.append((char) letter);
        return tape.length();
    }

    int rail() {
        String text = tape.toString();
        tape.setLength(0);
        Curve made = new Curve();
        Matcher m = TOKEN.matcher(text);
        List<String> part = new ArrayList<>();
        while (m.find()) {
            int number = faultOf(m.group(), part.size(), made.pegs.size());
            if (number != 0) {
                fault = number;
                return -1000100 - m.start();
            }
            part.add(m.group());
            if (part.size() == 5) {
                made.pegs.add(new Peg(part.get(0).charAt(0), Integer.parseInt(part.get(1)), Integer.parseInt(part.get(3)), 0));
                part.clear();
            }
        }
        if (!part.isEmpty() || made.pegs.size() < 3) {
            fault = part.isEmpty() && !made.pegs.isEmpty() ? 4 : 1;
            return -1000100 - text.length();
        }
        curve = made;
        acts.clear();
        return curve.pegs.size();
    }

    private static int faultOf(String token, int at, int pegs) {
        String[] shapes = {"[pbsje]", "[0-9]{1,2}", ",", "[0-9]{1,2}", ";"};
        if (!token.matches(shapes[at])) return 1;
        if (at == 1 && Integer.parseInt(token) > 60) return 2;
        if (at == 3 && Integer.parseInt(token) > 3) return 2;
        return at == 0 && pegs == 12 ? 3 : 0;
    }

    int fault() {
        return fault;
    }

    private void act() {
        acts.addLast(curve.twin());
        if (acts.size() > 24) acts.removeFirst();
    }

    int lay(int peg, int v) {
        if (isNoPeg(peg) || isOut(v, -3, 3)) return BAD;
        Peg p = curve.pegs.get(peg);
        if (isOut(v, -p.reach(), p.reach())) return STATE;
        act();
        int was = p.slew;
        p.slew = v;
        return was;
    }

    int work() {
        if (curve.pegs.isEmpty()) return STATE;
        act();
        int moved = curve.moved();
        curve.workIn();
        curve.worked = Math.min(999, curve.worked + 1);
        return moved;
    }

    int gang(int peg, int n) {
        if (isNoPeg(peg) || isOut(n, 1, 12)) return BAD;
        for (int i = peg; i < Math.min(peg + n, curve.pegs.size()); i++) {
            act();
            Peg p = curve.pegs.get(i);
            int[] rank = null;
            for (int v = -p.reach(); v <= p.reach(); v++) {
                p.slew = v;
                int[] here = {curve.steps()[i == 0 ? 0 : i - 1], Math.abs(v), v};
                if (rank == null || Arrays.compare(here, rank) < 0) rank = here;
            }
            p.slew = rank[2];
        }
        return curve.worst();
    }

    int read(int peg, int v) {
        if (isNoPeg(peg) || isOut(v, 0, 60)) return BAD;
        act();
        int was = curve.pegs.get(peg).versine;
        curve.pegs.get(peg).versine = v;
        return was;
    }

    int bound(int peg, int v) {
        if (isNoPeg(peg) || isOut(v, 0, 3)) return BAD;
        act();
        Peg p = curve.pegs.get(peg);
        int was = p.bound;
        p.bound = v;
        while (p.slew > p.reach()) p.slew--;
        while (p.slew < -p.reach()) p.slew++;
        return was;
    }

    int undo() {
        if (acts.isEmpty()) return STATE;
        curve = acts.removeLast();
        return acts.size();
    }

    int peg(int peg, int what) {
        if (isNoPeg(peg) || isOut(what, 0, 7)) return BAD;
        Peg p = curve.pegs.get(peg);
        boolean last = peg == curve.pegs.size() - 1;
        int[] all = {p.versine, p.bound, p.reach(), p.slew, curve.now()[peg], last ? NONE : curve.steps()[peg],
            curve.wish(peg), curve.secondSum(peg)};
        return all[what];
    }

    int line(int what) {
        if (curve.pegs.isEmpty()) return STATE;
        if (isOut(what, 0, 4)) return BAD;
        int last = curve.pegs.size() - 1;
        int differences = 0;
        int slews = 0;
        for (int i = 0; i <= last; i++) {
            differences += curve.wish(i) - curve.pegs.get(i).versine;
            slews += curve.pegs.get(i).slew;
        }
        int[] all = {curve.worst(), curve.uneven(), Arrays.stream(curve.now()).sum(), slews,
            differences == 0 && curve.secondSum(last) == 0 ? 1 : 0};
        return all[what];
    }

    /** How many SLEWS best() would try. */
    long choices() {
        long choices = 1;
        for (Peg p : curve.pegs) {
            choices *= 2 * p.reach() + 1;
        }
        return choices;
    }

    int best(int what) {
        if (curve.pegs.isEmpty()) return STATE;
        if (isOut(what, 0, 2) && isOut(what, 10, 9 + curve.pegs.size())) return BAD;
        Curve tried = curve.twin();
        int[] best = null;
        for (long choice = 0; choice < choices(); choice++) {
            long rest = choice;
            for (Peg p : tried.pegs) {
                int wide = 2 * p.reach() + 1;
                p.slew = (int) (rest % wide) - p.reach();
                rest /= wide;
            }
            int[] here = new int[10 + tried.pegs.size()];
            here[0] = tried.worst();
            here[1] = tried.uneven();
            here[2] = tried.moved();
            for (int i = 0; i < tried.pegs.size(); i++) {
                here[10 + i] = tried.pegs.get(i).slew;
            }
            if (best == null || Arrays.compare(here, best) < 0) best = here;
        }
        return best[what];
    }

    int wrong(int what) {
        if (curve.pegs.isEmpty()) return STATE;
        if (isOut(what, 0, 1)) return BAD;
        Curve tried = curve.twin();
        tried.pegs.forEach(p -> p.slew = 0);
        int[] best = {tried.uneven(), -1, -1};
        for (int i = 0; i < tried.pegs.size(); i++) {
            Peg p = tried.pegs.get(i);
            int there = p.versine;
            for (int v = 0; v <= 60; v++) {
                p.versine = v;
                if (tried.uneven() < best[0]) best = new int[] {tried.uneven(), i, v};
            }
            p.versine = there;
        }
        return best[1] < 0 ? NONE : best[1 + what];
    }

    int moment(int w) {
        if (curve.pegs.isEmpty()) return STATE;
        int sum = 0;
        int[] now = curve.now();
        try {
            for (int i = 0; i < now.length; i++) {
                sum = Math.addExact(sum, Math.multiplyExact(Math.multiplyExact(now[i], i + 1), w));
            }
        } catch (ArithmeticException e) {
            return find(6);
        }
        return fine(sum);
    }

    private boolean tells(Curve tried, int row, int n) {
        return Arrays.equals(Arrays.copyOf(tried.now(), n), Arrays.copyOf(rows[row], n));
    }

    int fits(int peg, int row, int n, int what) {
        if (isNoPeg(peg) || isNoRow(row) || isOut(n, 1, 12) || n > curve.pegs.size() || isOut(what, 0, 2)) return BAD;
        if (rows[row] == null) return find(1);
        if (rows[row].length < n) return find(2);
        Curve tried = curve.twin();
        Peg p = tried.pegs.get(peg);
        int slews = 0;
        for (int bit = 0; bit <= 6; bit++) {
            p.slew = bit - 3;
            if (Math.abs(p.slew) <= p.reach() && tells(tried, row, n)) slews += 1 << bit;
        }
        p.slew = curve.pegs.get(peg).slew;
        List<Integer> versines = new ArrayList<>();
        for (int v = 0; v <= 60; v++) {
            p.versine = v;
            if (tells(tried, row, n)) versines.add(v);
        }
        return fine(what == 0 ? slews : what == 1 ? versines.size() : versines.isEmpty() ? NONE : versines.get(0));
    }

    int tell(int peg, int row, int i) {
        if (isNoPeg(peg) || isNoRow(row)) return BAD;
        if (rows[row] == null) return find(1);
        if (isOut(i, 0, rows[row].length)) return find(2);
        int n = 0;
        while (i + n < rows[row].length && peg + n < curve.pegs.size()) {
            rows[row][i + n] = narrow(lanes[row], curve.now()[peg + n]);
            n++;
        }
        return fine(n);
    }

    long chance(int v, int c, int what) {
        if (curve.pegs.isEmpty()) return STATE;
        if (isOut(v, 0, 99) || isOut(c, 0, 10) || isOut(what, 0, 1)) return BAD;
        int soft = (int) curve.pegs.stream().filter(p -> p.sort == 's').count();
        BigInteger above = settle(curve.twin(), 0, v, c);
        BigInteger below = BigInteger.TEN.pow(soft);
        return (what == 0 ? above : below).divide(above.gcd(below)).longValueExact();
    }

    private static BigInteger settle(Curve tried, int from, int v, int c) {
        if (from == tried.pegs.size()) return tried.worst() <= v ? BigInteger.ONE : BigInteger.ZERO;
        Peg p = tried.pegs.get(from);
        if (p.sort != 's') return settle(tried, from + 1, v, c);
        BigInteger stays = settle(tried, from + 1, v, c).multiply(BigInteger.valueOf(10 - c));
        int was = p.slew;
        p.slew -= p.slew / 2;
        BigInteger settles = settle(tried, from + 1, v, c).multiply(BigInteger.valueOf(c));
        p.slew = was;
        return stays.add(settles);
    }

    int drawn(int n, int seed, int what) {
        if (curve.pegs.isEmpty()) return STATE;
        if (isOut(n, 0, 60) || isOut(seed, 1, 999999) || isOut(what, 0, 1)) return BAD;
        Curve years = curve.twin();
        BigInteger x = BigInteger.valueOf(seed);
        int laid = 0;
        for (int time = 0; time < n; time++) {
            x = x.multiply(BigInteger.valueOf(16807)).mod(BigInteger.valueOf(2147483647));
            Peg p = years.pegs.get(x.mod(BigInteger.valueOf(years.pegs.size())).intValue());
            int slew = x.mod(BigInteger.valueOf(7)).intValue() - 3;
            if (Math.abs(slew) <= p.reach()) {
                p.slew = slew;
                laid++;
            }
            if (time % 5 == 4) years.workIn();
        }
        return what == 0 ? years.worst() : laid;
    }

    int image(int k) {
        if (isOut(k, 0, 1)) return BAD;
        if (curve.pegs.isEmpty()) return STATE;
        images[k] = curve.twin();
        return 1;
    }

    int restore(int k) {
        if (isOut(k, 0, 1)) return BAD;
        if (images[k] == null) return STATE;
        curve = images[k].twin();
        acts.clear();
        return 1;
    }

    int kind(int peg) {
        return isNoPeg(peg) ? BAD : SORTS.indexOf(curve.pegs.get(peg).sort);
    }

    int as(int peg, int kind) {
        if (isNoPeg(peg) || isOut(kind, 0, 5)) return BAD;
        String[] are = {"psjbe", "psj", "s", "j", "be", "e"};
        return are[kind].indexOf(curve.pegs.get(peg).sort) >= 0 ? fine(peg) : find(3);
    }

    private class Plainest {
        final int number;

        Plainest(int number) {
            this.number = number;
        }

        int now() {
            return curve.now()[number];
        }

        int slew() {
            return curve.pegs.get(number).slew;
        }

        int size() {
            trace.add(10);
            return now();
        }

        int mark() {
            trace.add(20);
            return number;
        }
    }

    private class Plain extends Plainest {
        Plain(int number) {
            super(number);
        }

        @Override int size() {
            trace.add(11);
            return super.size() + mark();
        }

        @Override int mark() {
            trace.add(21);
            return super.mark() + slew();
        }
    }

    private final class Soft extends Plain {
        Soft(int number) {
            super(number);
        }

        @Override int size() {
            trace.add(12);
            return -super.size();
        }

        @Override int mark() {
            trace.add(24);
            return super.mark() * 2;
        }
    }

    private final class Joint extends Plain {
        Joint(int number) {
            super(number);
        }

        @Override int mark() {
            trace.add(22);
            return super.mark() - 1000;
        }
    }

    private class Bridge extends Plainest {
        Bridge(int number) {
            super(number);
        }

        @Override int size() {
            trace.add(13);
            return super.size() - 100;
        }

        @Override int mark() {
            trace.add(23);
            return super.mark() - size();
        }
    }

    private final class End extends Bridge {
        End(int number) {
            super(number);
        }

        @Override int size() {
            trace.add(14);
            return super.size() * 2;
        }
    }

    int ask(int peg, int what) {
        if (isNoPeg(peg) || isOut(what, 0, 1)) return BAD;
        Plainest[] all = {new Plain(peg), new Soft(peg), new Joint(peg), new Bridge(peg), new End(peg)};
        Plainest asked = all[kind(peg) - 1];
        trace.clear();
        return what == 0 ? asked.size() : asked.mark();
    }

    int trace(int i) {
        return i < 0 || i >= trace.size() || i >= 16 ? NONE : trace.get(i);
    }

    int count(int what) {
        if (isOut(what, 0, 5)) return BAD;
        int there = (int) Arrays.stream(rows).filter(r -> r != null).count();
        int slewed = (int) curve.pegs.stream().filter(p -> p.slew != 0).count();
        return new int[] {there, curve.pegs.size(), slewed, curve.worked, acts.size(), tape.length()}[what];
    }

    int status() {
        return status;
    }
}
