import java.util.Random;

/** Promise 17: best, by hand and against a search of all SLEWS one by one. */
public final class BestTest {
    private static final int BAD = SlewRails.BAD, STATE = SlewRails.STATE;
    private static final String SORTS = "pbsje";

    private int[] kinds;
    private int[] versines;
    private int[] reaches;
    private int[] tried;
    /** WORST, UNEVEN, how much is moved, then the SLEWS: the first such row in the order of a dictionary is BEST. */
    private int[] best;

    private int nowBy(int p) {
        int now = versines[p] + 2 * tried[p];
        if (p > 0) {
            now -= tried[p - 1];
        }
        if (p + 1 < tried.length) {
            now -= tried[p + 1];
        }
        return now;
    }

    private int[] told() {
        int[] told = new int[3 + tried.length];
        for (int p = 0; p < tried.length; p++) {
            if (p + 1 < tried.length && kinds[p] != 3 && kinds[p + 1] != 3) {
                int step = Math.abs(nowBy(p) - nowBy(p + 1));
                told[0] = Math.max(told[0], step);
                told[1] += step;
            }
            told[2] += Math.abs(tried[p]);
            told[3 + p] = tried[p];
        }
        return told;
    }

    private void tryAll(int p) {
        if (p == tried.length) {
            int[] told = told();
            if (best == null || java.util.Arrays.compare(told, best) < 0) {
                best = told;
            }
            return;
        }
        for (int v = -reaches[p]; v <= reaches[p]; v++) {
            tried[p] = v;
            tryAll(p + 1);
        }
    }

    private void compare(Due due, SlewRails x, String about) {
        int n = x.count(1);
        kinds = new int[n];
        versines = new int[n];
        reaches = new int[n];
        tried = new int[n];
        best = null;
        for (int p = 0; p < n; p++) {
            kinds[p] = x.kind(p);
            versines[p] = x.peg(p, 0);
            reaches[p] = x.peg(p, 2);
        }
        tryAll(0);
        for (int what = 0; what < 3; what++) {
            due.is(about + " best(" + what + ")", x.best(what), best[what]);
        }
        for (int p = 0; p < n; p++) {
            due.is(about + " best(" + (10 + p) + ")", x.best(10 + p), best[3 + p]);
        }
    }

    private static String text(Random by, int n, int most, int mostChoices) {
        StringBuilder text = new StringBuilder();
        int choices = 1;
        for (int p = 0; p < n; p++) {
            int bound = by.nextInt(4);
            char sort = SORTS.charAt(by.nextInt(5));
            if (choices * (2 * bound + 1) > mostChoices) {
                bound = 0;
            }
            choices *= 2 * bound + 1;
            text.append(sort).append(by.nextInt(most + 1)).append(',').append(bound).append(';');
        }
        return text.toString();
    }

    private static void byHand(Due due) {
        SlewRails x = Due.of("e10,3;p16,3;e10,3;");
        due.is("WORST", x.best(0), 0);
        due.is("UNEVEN", x.best(1), 0);
        due.is("how much is moved", x.best(2), 2);
        due.is("SLEW 0", x.best(10), 0);
        due.is("SLEW 1", x.best(11), -2);
        due.is("SLEW 2", x.best(12), 0);
        due.is("best(13)", x.best(13), BAD);
        due.is("best(3)", x.best(3), BAD);
        due.is("best(9)", x.best(9), BAD);
        due.is("best(-1)", x.best(-1), BAD);
        due.is("best(MOST)", x.best(Integer.MAX_VALUE), BAD);
        x.lay(1, 3);
        due.is("in place of those there are", x.best(11), -2);
        due.is("nothing changes", x.peg(1, 3), 3);
        x.read(1, 13);
        due.is("another VERSINE", x.best(11), -1);
        x.undo();
        due.is("undone", x.best(11), -2);
        x.bound(1, 1);
        due.is("another BOUND", x.best(11), -1);
        due.is("WORST then", x.best(0), 3);
        Due.read(x, "e10,3;s16,3;e10,3;");
        due.is("another KIND", x.best(11), -2);
        x.bound(1, 2);
        due.is("a soft one 1 less", x.best(11), -1);
        due.is("no RAIL", new SlewRails().best(0), STATE);
        due.is("no RAIL ahead of BAD", new SlewRails().best(3), STATE);
        SlewRails y = Due.of("j10,3;j20,3;j30,3;");
        due.is("nothing need be moved at joints", y.best(2) + y.best(0), 0);
    }

    private static void changes(Due due) {
        SlewRails x = Due.of("p10,2;p30,2;s20,3;p5,1;");
        BestTest test = new BestTest();
        test.compare(due, x, "first");
        x.image(0);
        x.lay(0, 2);
        x.lay(2, -2);
        x.work();
        test.compare(due, x, "worked in");
        x.undo();
        test.compare(due, x, "undone");
        x.read(3, 60);
        test.compare(due, x, "read");
        x.restore(0);
        test.compare(due, x, "restored");
        Due.read(x, "j10,2;p30,2;s20,3;p5,1;");
        test.compare(due, x, "another sort");
        Due.read(x, "j10,2;p30,2;s20,3;");
        test.compare(due, x, "fewer");
    }

    /** VERSINES that these SLEWS, and no others, bring to 30 each. */
    private static String evenedBy(String sorts, int[] slews) {
        StringBuilder text = new StringBuilder();
        int n = slews.length;
        for (int p = 0; p < n; p++) {
            int ahead = p == 0 ? 0 : slews[p - 1];
            int next = p == n - 1 ? 0 : slews[p + 1];
            text.append(sorts.charAt(p)).append(30 - 2 * slews[p] + ahead + next).append(",3;");
        }
        return text.toString();
    }

    /**
     * Were all NOW another number alike, k more, each SLEW would be another by k times (p + 1)(n - p) / 2: with 5 PEGS, or 7
     * and more, that is no whole number or goes beyond 6 somewhere. So these SLEWS alone make UNEVEN 0.
     */
    private static void evened(Due due, SlewRails x, String sorts, int[] slews) {
        String text = evenedBy(sorts, slews);
        due.is("PEGS of " + text, Due.read(x, text), slews.length);
        due.is("WORST of " + text, x.best(0), 0);
        due.is("UNEVEN of " + text, x.best(1), 0);
        int moved = 0;
        for (int p = 0; p < slews.length; p++) {
            moved += Math.abs(slews[p]);
            due.is("best(" + (10 + p) + ") of " + text, x.best(10 + p), slews[p]);
        }
        due.is("how much is moved of " + text, x.best(2), moved);
    }

    /** All SLEWS, and long RAILS, where they are too many to be tried one by one; several RAILS behind one another. */
    private static void longOnes(Due due, Random by) {
        String plain = "p".repeat(12);
        evened(due, new SlewRails(), plain, new int[] {-3, -3, -3, -3, -3, -3, -3, -3, -3, -3, -3, -3});
        evened(due, new SlewRails(), plain, new int[] {3, 3, 3, 3, 3, 3, 3, 3, 3, 3, 3, 3});
        evened(due, new SlewRails(), plain, new int[] {3, -3, 3, -3, 3, -3, 3, -3, 3, -3, 3, -3});
        evened(due, new SlewRails(), plain, new int[] {-3, 3, -3, 3, -3, 3, -3, 3, -3, 3, -3, 3});
        evened(due, new SlewRails(), plain, new int[12]);
        int[] sizes = {5, 7, 8, 9, 10, 11, 12};
        for (int k = 0; k < 200; k++) {
            SlewRails x = new SlewRails();
            for (int rail = 0; rail < 4; rail++) {
                int[] slews = new int[sizes[by.nextInt(7)]];
                StringBuilder sorts = new StringBuilder();
                for (int p = 0; p < slews.length; p++) {
                    char sort = k % 2 == 0 ? 'p' : "pppsbe".charAt(by.nextInt(6));
                    int reach = sort == 'p' ? 3 : sort == 's' ? 2 : 0;
                    slews[p] = by.nextInt(3) == 0 ? -reach : by.nextInt(2 * reach + 1) - reach;
                    sorts.append(sort);
                }
                evened(due, x, sorts.toString(), slews);
            }
        }
    }

    public static void main(String[] args) {
        Due due = new Due("BestTest");
        byHand(due);
        changes(due);
        longOnes(due, new Random(3));
        BestTest test = new BestTest();
        Random by = new Random(1);
        for (int k = 0; k < 400; k++) {
            int n = 3 + by.nextInt(10);
            String text = text(by, n, k % 3 == 0 ? 60 : k % 3 == 1 ? 12 : 4, 20000);
            SlewRails x = Due.of(text);
            test.compare(due, x, text);
        }
        for (String text : new String[] {"p9,3;p0,3;p7,3;p3,3;p9,3;p1,3;p4,3;", "s5,2;".repeat(12),
                "s0,2;s9,2;".repeat(6), "p0,1;j9,1;".repeat(6), "p0,3;p60,3;b0,3;p60,3;p0,3;p60,3;e0,0;"}) {
            test.compare(due, Due.of(text), text);
        }
        due.end();
    }
}
