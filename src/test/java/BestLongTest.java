import java.util.Arrays;
import java.util.HashMap;
import java.util.Map;
import java.util.Random;

/**
 * Promise 17 on RAILS of 7 to 12 PEGS, most of them with a BOUND of 3, where all SLEWS are too many to be tried one by one
 * as BestTest does. From PEG 0 on, the best row of SLEWS is kept for each choice of its latest three (no STEP to come
 * hangs on more), first with no STEP above 0, then 1, and so on, until there is a row that comes through: that limit is
 * the least WORST.
 */
public final class BestLongTest {
    private static final int UNEVEN = 0, MOVED = 1, SLEWS = 2;

    private final int[] kinds;
    private final int[] versines;
    private final int[] reaches;
    private final int n;

    private BestLongTest(SlewRails x) {
        n = x.count(1);
        kinds = new int[n];
        versines = new int[n];
        reaches = new int[n];
        for (int p = 0; p < n; p++) {
            kinds[p] = x.kind(p);
            versines[p] = x.peg(p, 0);
            reaches[p] = x.peg(p, 2);
        }
    }

    private int slew(int[] row, int p) {
        return p < 0 || p >= n ? 0 : row[SLEWS + p];
    }

    private int now(int[] row, int p) {
        return versines[p] + 2 * slew(row, p) - slew(row, p - 1) - slew(row, p + 1);
    }

    private int step(int[] row, int p) {
        return kinds[p] == 3 || kinds[p + 1] == 3 ? 0 : Math.abs(now(row, p) - now(row, p + 1));
    }

    /** The row with one SLEW more, or null where a STEP that is sure by it is above the limit. */
    private int[] longer(int[] row, int p, int v, int limit) {
        int[] more = row.clone();
        more[SLEWS + p] = v;
        more[MOVED] += Math.abs(v);
        int to = p == n - 1 ? p - 1 : p - 2;
        for (int q = Math.max(0, p - 2); q <= to; q++) {
            int step = step(more, q);
            if (step > limit) {
                return null;
            }
            more[UNEVEN] += step;
        }
        return more;
    }

    private int[] bestBy(int limit) {
        Map<Integer, int[]> rows = new HashMap<>();
        rows.put(0, new int[SLEWS + n]);
        for (int p = 0; p < n; p++) {
            Map<Integer, int[]> next = new HashMap<>();
            for (int[] row : rows.values()) {
                for (int v = -reaches[p]; v <= reaches[p]; v++) {
                    int[] more = longer(row, p, v, limit);
                    if (more != null) {
                        int latest = (slew(more, p - 2) * 100 + slew(more, p - 1)) * 100 + v;
                        next.merge(latest, more, (a, b) -> Arrays.compare(a, b) <= 0 ? a : b);
                    }
                }
            }
            rows = next;
        }
        return rows.values().stream().min(Arrays::compare).orElse(null);
    }

    private static void compare(Due due, SlewRails x, String about) {
        BestLongTest search = new BestLongTest(x);
        int worst = 0;
        int[] best = search.bestBy(worst);
        while (best == null) {
            worst++;
            best = search.bestBy(worst);
        }
        due.is(about + " best(0)", x.best(0), worst);
        due.is(about + " best(1)", x.best(1), best[UNEVEN]);
        due.is(about + " best(2)", x.best(2), best[MOVED]);
        for (int p = 0; p < search.n; p++) {
            due.is(about + " best(" + (10 + p) + ")", x.best(10 + p), best[SLEWS + p]);
        }
    }

    private static String text(Random by, int n, String sorts, int most) {
        StringBuilder text = new StringBuilder();
        for (int p = 0; p < n; p++) {
            text.append(sorts.charAt(by.nextInt(sorts.length()))).append(by.nextInt(most + 1)).append(',')
                .append(by.nextInt(5) == 0 ? by.nextInt(4) : 3).append(';');
        }
        return text.toString();
    }

    /** VERSINES below 0 and above 60, as no text can tell them. */
    private static void workInOften(SlewRails x, Random by) {
        int n = x.count(1);
        for (int time = 0; time < 12; time++) {
            for (int p = 0; p < n; p++) {
                int reach = x.peg(p, 2);
                x.lay(p, p % 2 == 0 ? reach : -by.nextInt(reach + 1));
            }
            x.work();
        }
    }

    public static void main(String[] args) {
        Due due = new Due("BestLongTest");
        Random by = new Random(17);
        String[] sorts = {"p", "s", "pps", "psjbe", "ppppsj"};
        for (int k = 0; k < 60; k++) {
            int most = k % 3 == 0 ? 60 : k % 3 == 1 ? 20 : 6;
            String text = text(by, 7 + by.nextInt(6), sorts[k % sorts.length], most);
            SlewRails x = Due.of(text);
            compare(due, x, text);
            if (k % 10 == 0) {
                workInOften(x, by);
                compare(due, x, "worked in " + text);
            }
        }
        due.end();
    }
}
