import java.math.BigInteger;
import java.util.Random;

/** Promise 22: chance, by hand and against all ways to settle, one by one. */
public final class ChanceTest {
    private static final int BAD = SlewRails.BAD, STATE = SlewRails.STATE;

    private static void byHand(Due due) {
        SlewRails x = Due.of("p10,3;s10,3;p10,3;");
        due.is("even", x.chance(0, 5, 0), 1);
        due.is("even, below", x.chance(0, 5, 1), 1);
        x.lay(1, 2);
        // unsettled 8 14 8, settled 9 12 9
        due.is("WORST 3 or less if settled", x.chance(3, 4, 0), 2);
        due.is("by 4 of 10", x.chance(3, 4, 1), 5);
        due.is("not 2 or less", x.chance(2, 4, 0), 0);
        due.is("0 by 1", x.chance(2, 4, 1), 1);
        due.is("5 or less", x.chance(5, 10, 0), 1);
        due.is("6 or less either way", x.chance(6, 3, 0), 1);
        due.is("6 or less either way", x.chance(6, 3, 1), 1);
        due.is("never settled", x.chance(3, 0, 0), 0);
        due.is("ever settled", x.chance(3, 10, 1), 1);
        x.lay(1, 1);
        due.is("half of 1 is nothing", x.chance(2, 10, 0), 0);
        x.lay(1, -2);
        due.is("inward, settled", x.chance(3, 3, 0), 3);
        due.is("inward, settled", x.chance(3, 3, 1), 10);
        due.is("nothing changes", x.peg(1, 3), -2);
        SlewRails plain = Due.of("p10,3;p10,3;p10,3;");
        plain.lay(1, 2);
        due.is("a plain one does not settle", plain.chance(3, 10, 0), 0);
    }

    private static void refused(Due due) {
        SlewRails x = Due.of("p10,3;s10,3;p10,3;");
        due.is("v 100", x.chance(100, 5, 0), BAD);
        due.is("v -1", x.chance(-1, 5, 0), BAD);
        due.is("v 99", x.chance(99, 5, 0), 1);
        due.is("c 11", x.chance(5, 11, 0), BAD);
        due.is("c -1", x.chance(5, -1, 0), BAD);
        due.is("what 2", x.chance(5, 5, 2), BAD);
        due.is("what -1", x.chance(5, 5, -1), BAD);
        due.is("no RAIL", new SlewRails().chance(5, 5, 0), STATE);
        due.is("no RAIL ahead of BAD", new SlewRails().chance(100, 5, 0), STATE);
    }

    private static int worstBy(long[] versines, long[] laid, long[] kinds, int settled) {
        int n = versines.length;
        long[] slews = new long[n + 2];
        for (int p = 0; p < n; p++) {
            slews[p + 1] = (settled >> p & 1) == 1 ? laid[p] - laid[p] / 2 : laid[p];
        }
        long[] now = new long[n];
        for (int p = 0; p < n; p++) {
            now[p] = versines[p] + 2 * slews[p + 1] - slews[p] - slews[p + 2];
        }
        long worst = 0;
        for (int p = 0; p + 1 < n; p++) {
            if (kinds[p] != 3 && kinds[p + 1] != 3) {
                worst = Math.max(worst, Math.abs(now[p] - now[p + 1]));
            }
        }
        return (int) worst;
    }

    private static void compare(Due due, SlewRails x, int v, int c, String about) {
        long[] versines = Due.pegs(x, 0);
        long[] laid = Due.pegs(x, 3);
        int n = versines.length;
        long[] kinds = new long[n];
        int soft = 0;
        for (int p = 0; p < n; p++) {
            kinds[p] = x.kind(p);
            soft |= kinds[p] == 2 ? 1 << p : 0;
        }
        BigInteger above = BigInteger.ZERO;
        for (int settled = 0; settled < 1 << n; settled++) {
            if ((settled & ~soft) == 0 && worstBy(versines, laid, kinds, settled) <= v) {
                int many = Integer.bitCount(settled);
                above = above.add(BigInteger.valueOf(c).pow(many)
                    .multiply(BigInteger.valueOf(10 - c).pow(Integer.bitCount(soft) - many)));
            }
        }
        BigInteger below = BigInteger.TEN.pow(Integer.bitCount(soft));
        BigInteger common = above.gcd(below);
        due.is(about + " chance(" + v + ", " + c + ", 0)", x.chance(v, c, 0), above.divide(common).longValueExact());
        due.is(about + " chance(" + v + ", " + c + ", 1)", x.chance(v, c, 1), below.divide(common).longValueExact());
    }

    private static SlewRails slewed(Random by, String text) {
        SlewRails x = Due.of(text);
        for (int p = 0; p < x.count(1); p++) {
            int reach = x.peg(p, 2);
            x.lay(p, by.nextInt(3) == 0 ? by.nextInt(2 * reach + 1) - reach : by.nextBoolean() ? reach : -reach);
        }
        return x;
    }

    public static void main(String[] args) {
        Due due = new Due("ChanceTest");
        byHand(due);
        refused(due);
        Random by = new Random(2);
        for (int k = 0; k < 60; k++) {
            StringBuilder text = new StringBuilder();
            int n = 3 + by.nextInt(7);
            for (int p = 0; p < n; p++) {
                text.append("sssspbje".charAt(by.nextInt(8))).append(by.nextInt(6)).append(",3;");
            }
            SlewRails x = slewed(by, text.toString());
            for (int v = 0; v < 16; v += 3) {
                compare(due, x, v, by.nextInt(11), text.toString());
            }
        }
        SlewRails all = slewed(by, "s9,3;".repeat(12));
        for (int v = 0; v < 16; v += 5) {
            compare(due, all, v, 3, "12 soft ones");
        }
        due.end();
    }
}
