import java.util.Random;

/** All promises: random runs of at most 512 calls, wild numbers among them, compared with the Model call by call. */
public final class ModelTest {
    private static final int[] WILD = {Integer.MIN_VALUE, Integer.MIN_VALUE + 1, -1000000, -100, -4, -1, 13, 41, 61, 100,
        121, 256, 1000000, 715827883, Integer.MAX_VALUE - 1, Integer.MAX_VALUE};

    private final Due due;
    private final Random by;
    private final String about;
    private SlewRails x = new SlewRails();
    private Model y = new Model();
    private int calls = 0;

    private ModelTest(Due due, int seed) {
        this.due = due;
        this.by = new Random(seed);
        this.about = "seed " + seed + " call ";
    }

    /** Mostly from least to most, now and then a little or far outside. */
    private int some(int least, int most) {
        int die = by.nextInt(40);
        if (die == 0) {
            return WILD[by.nextInt(WILD.length)];
        }
        return die == 1 ? most + 1 : die == 2 ? least - 1 : least + by.nextInt(most - least + 1);
    }

    private int peg() {
        calls++;
        int n = x.count(1);
        return some(0, n == 0 ? 0 : n - 1);
    }

    private void same(String call, long got, long want) {
        calls++;
        due.is(about + calls + ": " + call, got, want);
    }

    private String text() {
        StringBuilder text = new StringBuilder();
        int n = by.nextInt(8) == 0 ? by.nextInt(14) : 3 + by.nextInt(10);
        String sorts = by.nextInt(3) == 0 ? "s" : by.nextBoolean() ? "psjbe" : "ppss";
        int most = by.nextBoolean() ? 60 : 15;
        for (int p = 0; p < n; p++) {
            text.append(sorts.charAt(by.nextInt(sorts.length()))).append(by.nextInt(most + 1)).append(',')
                .append(by.nextInt(4)).append(';');
        }
        if (by.nextInt(4) == 0 && text.length() > 0) {
            String odd = "psx019,; \n\u00ff4";
            text.setCharAt(by.nextInt(text.length()), odd.charAt(by.nextInt(odd.length())));
        }
        if (by.nextInt(8) == 0 && text.length() > 0) {
            text.setLength(by.nextInt(text.length()));
        }
        return text.toString();
    }

    private void readText() {
        String text = text();
        for (int i = 0; i < text.length(); i++) {
            same("feed(" + (int) text.charAt(i) + ")", x.feed(text.charAt(i)), y.feed(text.charAt(i)));
        }
        same("rail() of " + text, x.rail(), y.rail());
        same("fault()", x.fault(), y.fault());
    }

    private void rowCall() {
        int a = some(0, 3);
        int i = some(0, 12);
        int v = some(-70, 70);
        switch (by.nextInt(4)) {
            case 0:
                int n = by.nextBoolean() ? some(0, 14) : some(0, 40);
                int lane = some(0, 2);
                same("row(" + a + ", " + lane + ", " + n + ")", x.row(a, lane, n), y.row(a, lane, n));
                break;
            case 1:
                same("set(" + a + ", " + i + ", " + v + ")", x.set(a, i, v), y.set(a, i, v));
                break;
            case 2:
                int b = some(0, 3);
                int j = some(0, 8);
                int many = some(0, 6);
                same("copy(" + a + ", " + i + ", " + b + ", " + j + ", " + many + ")", x.copy(a, i, b, j, many),
                    y.copy(a, i, b, j, many));
                break;
            default:
                if (by.nextInt(4) == 0) {
                    same("drop(" + a + ")", x.drop(a), y.drop(a));
                }
        }
    }

    private void actCall() {
        int p = peg();
        int v = some(-3, 3);
        int n = some(1, 12);
        int versine = some(0, 60);
        int bound = some(0, 3);
        switch (by.nextInt(8)) {
            case 0: same("work()", x.work(), y.work()); break;
            case 1: same("gang(" + p + ", " + n + ")", x.gang(p, n), y.gang(p, n)); break;
            case 2: same("read(" + p + ", " + versine + ")", x.read(p, versine), y.read(p, versine)); break;
            case 3: same("bound(" + p + ", " + bound + ")", x.bound(p, bound), y.bound(p, bound)); break;
            case 4: same("undo()", x.undo(), y.undo()); break;
            default: same("lay(" + p + ", " + v + ")", x.lay(p, v), y.lay(p, v));
        }
    }

    private void foretoldCall() {
        int p = peg();
        int row = some(0, 3);
        int n = by.nextBoolean() ? some(1, 3) : some(1, Math.max(1, x.count(1)));
        int what = some(0, 2);
        int v = by.nextInt(3) == 0 ? some(0, 99) : some(0, 30);
        int c = some(0, 10);
        int one = some(0, 1);
        int w = by.nextBoolean() ? by.nextInt() : by.nextInt(2000000) - 1000000;
        int seed = some(1, 999999);
        int years = some(0, 60);
        int i = some(0, 12);
        switch (by.nextInt(8)) {
            case 0: same("wrong(" + one + ")", x.wrong(one), y.wrong(one)); break;
            case 1: same("moment(" + w + ")", x.moment(w), y.moment(w)); break;
            case 2: same("tell(" + p + ", " + row + ", " + i + ")", x.tell(p, row, i), y.tell(p, row, i)); break;
            case 3: same("chance(" + v + ", " + c + ", " + one + ")", x.chance(v, c, one), y.chance(v, c, one)); break;
            case 4: same("drawn(" + years + ", " + seed + ", " + one + ")", x.drawn(years, seed, one),
                y.drawn(years, seed, one)); break;
            case 5: bestCall(); break;
            default: same("fits(" + p + ", " + row + ", " + n + ", " + what + ")", x.fits(p, row, n, what),
                y.fits(p, row, n, what));
        }
    }

    /** Only where the Model can try all SLEWS; BestTest has longer ones. */
    private void bestCall() {
        int what = by.nextBoolean() ? some(0, 2) : some(10, 21);
        if (y.choices() <= Model.MOST_TRIED) {
            same("best(" + what + ")", x.best(what), y.best(what));
        }
    }

    private void askedCall() {
        int p = peg();
        int k = some(0, 5);
        int one = some(0, 1);
        int i = some(0, 16);
        switch (by.nextInt(7)) {
            case 0: same("kind(" + p + ")", x.kind(p), y.kind(p)); break;
            case 1: same("as(" + p + ", " + k + ")", x.as(p, k), y.as(p, k)); break;
            case 2: same("ask(" + p + ", " + one + ")", x.ask(p, one), y.ask(p, one)); break;
            case 3: same("trace(" + i + ")", x.trace(i), y.trace(i)); break;
            case 4: same("status()", x.status(), y.status()); break;
            case 5:
                if (by.nextInt(4) == 0) {
                    same("image(" + one + ")", x.image(one), y.image(one));
                }
                break;
            default:
                if (by.nextInt(6) == 0) {
                    same("restore(" + one + ")", x.restore(one), y.restore(one));
                }
        }
    }

    private void look() {
        int p = peg();
        int what = some(0, 7);
        same("peg(" + p + ", " + what + ")", x.peg(p, what), y.peg(p, what));
        int all = some(0, 4);
        same("line(" + all + ")", x.line(all), y.line(all));
        int many = some(0, 5);
        same("count(" + many + ")", x.count(many), y.count(many));
    }

    private void run() {
        int pause = by.nextInt(20);
        while (calls < 310) {
            if (pause-- <= 0) {
                readText();
                pause = 30 + by.nextInt(120);
            }
            switch (by.nextInt(6)) {
                case 0: rowCall(); break;
                case 1: case 2: actCall(); break;
                case 3: foretoldCall(); break;
                case 4: askedCall(); break;
                default: look();
            }
        }
        int n = x.count(1);
        for (int p = 0; p < n; p++) {
            for (int what = 0; what < 8; what++) {
                same("at last peg(" + p + ", " + what + ")", x.peg(p, what), y.peg(p, what));
            }
        }
    }

    public static void main(String[] args) {
        Due due = new Due("ModelTest");
        for (int seed = 1; seed <= 2500; seed++) {
            new ModelTest(due, seed).run();
        }
        due.end();
    }
}
