import java.math.BigInteger;

/** The edges of what is FORETOLD: section 3 of the document's terms, and promises 15 to 23. */
public final class ForetoldEdgesTest {
    private static final int NONE = SlewRails.NONE, BAD = SlewRails.BAD, STATE = SlewRails.STATE;
    private static final int PLACE = -1000012, OVER = -1000016;
    private static final int LEAST = Integer.MIN_VALUE, MOST = Integer.MAX_VALUE;

    private static void wish(Due due) {
        due.sentence("(last less first) times its number, by how many PEGS less 1 (cut), and the first.");
        due.are("WISH up, 12 PEGS", Due.pegs(Due.of("p0,0;" + "p9,0;".repeat(10) + "p60,0;"), 6), 0, 5, 10, 16, 21, 27, 32,
            38, 43, 49, 54, 60);
        due.are("WISH down, cut towards 0", Due.pegs(Due.of("p60,0;" + "p9,0;".repeat(10) + "p0,0;"), 6), 60, 55, 50, 44,
            39, 33, 28, 22, 17, 11, 6, 0);
        due.are("WISH of 3 PEGS, up by 1", Due.pegs(Due.of("p4,0;p0,0;p5,0;"), 6), 4, 4, 5);
        due.are("WISH of 3 PEGS, down by 1", Due.pegs(Due.of("p5,0;p0,0;p4,0;"), 6), 5, 5, 4);
        due.are("WISH of 3 PEGS, even", Due.pegs(Due.of("p5,0;p0,0;p5,0;"), 6), 5, 5, 5);
        SlewRails x = Due.of("p0,3;p0,3;p0,3;");
        x.lay(0, -3);
        x.work();
        due.are("VERSINES", Due.pegs(x, 0), -6, 3, 0);
        due.are("WISH from below 0", Due.pegs(x, 6), -6, -3, 0);
        x.read(2, 1);
        due.are("WISH from below 0, cut", Due.pegs(x, 6), -6, -3, 1);
        x.lay(0, 3);
        due.are("WISH is by VERSINES, not NOW", Due.pegs(x, 6), -6, -3, 1);
    }

    private static void secondSum(Due due) {
        due.sentence("SECOND SUM at a PEG: of all PEGS ahead of it (WISH less VERSINE) times how many PEGS on it lies from "
            + "them, together.");
        // WISH 10 11 12 13, less VERSINE 0 -9 7 0
        SlewRails x = Due.of("p10,3;p20,3;p5,3;p13,3;");
        due.are("none ahead, then more", Due.pegs(x, 7), 0, 0, -9, -11);
        x.lay(1, -3);
        due.are("by VERSINES, not NOW", Due.pegs(x, 7), 0, 0, -9, -11);
        due.are("of 3 PEGS", Due.pegs(Due.of("p10,3;p16,3;p10,3;"), 7), 0, 0, -6);
        // -60 times 10 and 9 .. and 1
        due.is("of 12 PEGS", Due.of("p0,3;" + "p60,3;".repeat(10) + "p0,3;").peg(11, 7), -60 * 55);
        due.is("of 12 PEGS, above 0", Due.of("p60,3;" + "p0,3;".repeat(10) + "p60,3;").peg(11, 7), 60 * 55);
    }

    private static void closes(Due due) {
        due.sentence("CLOSES: whether the SECOND SUM at the last PEG is 0, and all differences (WISH less VERSINE) are 0 "
            + "together.");
        due.is("both", Due.of("p10,0;p10,0;p10,0;").line(4), 1);
        due.is("both, with differences", Due.of("p10,0;p11,0;p8,0;p11,0;p10,0;").line(4), 1);
        due.is("differences alone", Due.of("p10,0;p11,0;p9,0;p10,0;").line(4), 0);
        due.is("SECOND SUM alone", Due.of("p10,0;p9,0;p12,0;p10,0;").line(4), 0);
        due.is("neither", Due.of("p10,0;p11,0;p10,0;").line(4), 0);
        due.is("WISH is cut", Due.of("p10,0;p10,0;p11,0;").line(4), 1);
        due.is("WISH is cut, down", Due.of("p11,0;p11,0;p10,0;").line(4), 1);
    }

    private static void best(Due due, String text, long... told) {
        SlewRails x = Due.of(text);
        for (int what = 0; what < 3; what++) {
            due.is("best(" + what + ") of " + text, x.best(what), told[what]);
        }
        for (int p = 0; p + 3 < told.length; p++) {
            due.is("best(" + (10 + p) + ") of " + text, x.best(10 + p), told[3 + p]);
        }
    }

    private static void bestOfSeveral(Due due) {
        due.sentence("those by which WORST is least, of several those by which UNEVEN is least, of several those by which "
            + "least is moved (all SLEWS taken above 0, together), of several the first (PEG by PEG, the least SLEW "
            + "first)");
        // SLEW 1 makes 3 3 7: UNEVEN 4, but WORST 4
        best(due, "p1,1;b4,0;b7,0;", 3, 6, 0, 0, 0, 0);
        // SLEW 0 leaves 0 2 5: nothing is moved, WORST is 3 as well, but UNEVEN 5
        best(due, "b0,0;b2,0;p5,1;", 3, 3, 1, 0, 0, -1);
        // SLEW -1 makes 1 3 2: WORST 2, UNEVEN 3 as well, and it is the lesser SLEW, but 1 is moved
        best(due, "b1,0;b2,0;p4,1;", 2, 3, 0, 0, 0, 0);
        // SLEWS 1 0 0 make 6 5 4, SLEWS 0 0 1 make 4 5 6
        best(due, "p4,1;b6,0;p4,1;", 1, 2, 1, 0, 0, 1);
        // SLEWS 0 -1 0 make 7 6 6, SLEWS 0 0 1 make 6 7 7
        best(due, "b6,0;p8,1;p5,1;", 1, 1, 1, 0, -1, 0);
        best(due, "p7,3;p7,3;p7,3;", 0, 0, 0, 0, 0, 0);
        best(due, "b0,3;e60,3;s0,1;", 60, 120, 0, 0, 0, 0);
        best(due, "j0,3;j60,3;j0,3;", 0, 0, 0, 0, 0, 0);
        // REACH of the soft one is 2: 14 less 4, 8 and 2
        best(due, "e8,0;s14,3;e8,0;", 0, 0, 2, 0, -2, 0);
        best(due, "e8,0;s14,2;e8,0;", 3, 6, 1, 0, -1, 0);
    }

    private static void bestInPlace(Due due) {
        due.sentence("BEST: of all SLEWS within REACH (laid in place of those there are)");
        SlewRails x = Due.of("p4,1;b6,0;p4,1;");
        for (int v = -1; v <= 1; v++) {
            x.lay(0, v);
            x.lay(2, -v);
            due.is("WORST", x.best(0), 1);
            due.is("UNEVEN", x.best(1), 2);
            due.is("how much is moved", x.best(2), 1);
            due.is("SLEW 0", x.best(10), 0);
            due.is("SLEW 2", x.best(12), 1);
            due.is("those there are stay", x.peg(0, 3), v);
        }
        x.bound(2, 0);
        due.is("another REACH: SLEW 0", x.best(10), 1);
        due.is("another REACH: SLEW 2", x.best(12), 0);
        x.bound(0, 0);
        due.is("no REACH: WORST", x.best(0), 2);
        due.is("no REACH: how much is moved", x.best(2), 0);
    }

    /** Each text differs from the one before in one matter alone, at each PEG. */
    private static void bestOfAnother(Due due) {
        due.sentence("BEST: of all SLEWS within REACH");
        SlewRails x = Due.of("p8,2;p17,2;p8,2;");
        // SLEWS 1 -2 1 make 12 11 12
        due.is("plain ones: WORST", x.best(0), 1);
        due.is("plain ones: how much is moved", x.best(2), 4);
        due.is("plain ones: SLEW 1", x.best(11), -2);
        Due.read(x, "s8,2;s17,2;s8,2;");
        // SLEWS 1 -1 1 make 11 13 11
        due.is("soft ones: WORST", x.best(0), 2);
        due.is("soft ones: how much is moved", x.best(2), 3);
        due.is("soft ones: SLEW 1", x.best(11), -1);
        Due.read(x, "s8,3;s17,3;s8,3;");
        due.is("other BOUNDS: WORST", x.best(0), 1);
        due.is("other BOUNDS: how much is moved", x.best(2), 4);
        due.is("other BOUNDS: SLEW 1", x.best(11), -2);
        Due.read(x, "s9,3;s15,3;s9,3;");
        // SLEWS 0 -2 0 make 11 11 11
        due.is("other VERSINES: WORST", x.best(0), 0);
        due.is("other VERSINES: how much is moved", x.best(2), 2);
        Due.read(x, "s9,3;s15,3;s9,3;s9,3;");
        // SLEWS 0 -2 0 1 make 11 11 10 11
        due.is("one PEG more: WORST", x.best(0), 1);
        due.is("one PEG more: SLEW 3", x.best(13), 1);
    }

    private static void bestOfWhat(Due due) {
        due.sentence("BEST: 0 WORST, 1 UNEVEN, 2 how much is moved; 10 and a PEG: its SLEW.");
        for (int pegs = 3; pegs <= 12; pegs++) {
            SlewRails x = Due.of("p0,1;".repeat(pegs));
            for (int what = -1; what <= 24; what++) {
                boolean isWhat = what >= 0 && what <= 2 || what >= 10 && what <= 9 + pegs;
                due.is(pegs + " PEGS, best(" + what + ")", x.best(what), isWhat ? 0 : BAD);
            }
        }
    }

    private static void wrong(Due due, String text, int which, int versine) {
        SlewRails x = Due.of(text);
        due.is("wrong(0) of " + text, x.wrong(0), which);
        due.is("wrong(1) of " + text, x.wrong(1), versine);
    }

    private static void wrongs(Due due) {
        due.sentence("WRONG: the PEG whose VERSINE alone, were it another one (0 to 60), would make UNEVEN least (all SLEWS "
            + "being 0), less than it is with the one there (all SLEWS being 0, too), of several the first; that VERSINE, "
            + "of several the least; NONE.");
        wrong(due, "p9,3;p9,3;p9,3;", NONE, NONE);
        wrong(due, "j0,3;j60,3;j0,3;", NONE, NONE);
        wrong(due, "p0,3;j60,3;p0,3;", NONE, NONE);
        wrong(due, "p1,3;p0,3;p0,3;", 0, 0);
        wrong(due, "p0,3;p0,3;p1,3;", 2, 0);
        wrong(due, "p59,3;p60,3;p60,3;", 0, 60);
        wrong(due, "p60,3;p60,3;p0,3;", 2, 60);
        // PEG 0 as 20 and PEG 2 as 20 both leave 10
        wrong(due, "p10,3;p20,3;p30,3;", 0, 20);
        // 10 to 12 for PEG 2 leave 2
        wrong(due, "p10,3;p10,3;p40,3;p12,3;p12,3;", 2, 10);
        wrong(due, "p12,3;p12,3;p0,3;p10,3;p10,3;", 2, 10);
        // PEG 0 as 7 and PEG 1 as 5 both leave 0
        wrong(due, "b5,0;b7,0;j9,0;j9,0;", 0, 7);
        wrong(due, "p9,3;".repeat(12), NONE, NONE);
        wrong(due, "p9,3;".repeat(11) + "p8,3;", 11, 9);
        wrong(due, "p8,3;" + "p9,3;".repeat(11), 0, 9);
        SlewRails x = Due.of("p9,3;p9,3;p9,3;");
        x.lay(1, 3);
        due.is("all SLEWS being 0", x.wrong(0), NONE);
        SlewRails high = Due.of("p60,3;p60,3;p0,3;p60,3;p60,3;");
        high.lay(1, 3);
        high.lay(3, 3);
        high.work();
        due.are("VERSINES", Due.pegs(high, 0), 57, 66, -6, 66, 57);
        due.is("PEG 2", high.wrong(0), 2);
        due.is("60, though 66 would be more even", high.wrong(1), 60);
        SlewRails low = Due.of("p0,3;p0,3;p60,3;p0,3;p0,3;");
        low.lay(1, -3);
        low.lay(3, -3);
        low.work();
        due.are("VERSINES", Due.pegs(low, 0), 3, -6, 66, -6, 3);
        due.is("PEG 2", low.wrong(0), 2);
        due.is("0, though -6 would be more even", low.wrong(1), 0);
        SlewRails out = Due.of("e3,0;p0,3;e3,0;");
        out.lay(1, -3);
        out.work();
        out.read(0, 0);
        out.read(2, 0);
        due.are("VERSINES", Due.pegs(out, 0), 0, -6, 0);
        due.is("one that is below 0 itself", out.wrong(0), 1);
        due.is("its VERSINE", out.wrong(1), 0);
    }

    private static void moment(Due due) {
        due.sentence("MOMENT by w: VERSINES NOW, each times its number and 1, times w, added one by one from PEG 0 on as "
            + "ints are, each product, each sum exact, else OVER.");
        moment(due, "p1,3;p0,3;p0,3;", MOST, MOST);
        moment(due, "p1,3;p0,3;p0,3;", LEAST, LEAST);
        moment(due, "p2,3;p0,3;p0,3;", 1073741823, MOST - 1);
        moment(due, "p2,3;p0,3;p0,3;", 1073741824, OVER);
        moment(due, "p2,3;p0,3;p0,3;", -1073741824, LEAST);
        moment(due, "p2,3;p0,3;p0,3;", -1073741825, OVER);
        moment(due, "p0,3;p0,3;p1,3;", 715827882, MOST - 1);
        moment(due, "p0,3;p0,3;p1,3;", 715827883, OVER);
        moment(due, "p0,3;p0,3;p1,3;", -715827882, LEAST + 2);
        moment(due, "p0,3;p0,3;p1,3;", -715827883, OVER);
        moment(due, "p2,3;p1,3;p0,3;", 536870911, MOST - 3);
        moment(due, "p2,3;p1,3;p0,3;", 536870912, OVER);
        moment(due, "p2,3;p1,3;p0,3;", -536870912, LEAST);
        moment(due, "p2,3;p1,3;p0,3;", -536870913, OVER);
        moment(due, "p0,3;p0,3;p0,3;", MOST, 0);
        moment(due, "p0,3;p0,3;p0,3;", LEAST, 0);
        moment(due, "p60,3;p60,3;p60,3;", 0, 0);
        moment(due, "p60,3;".repeat(12), 458864, 60 * 78 * 458864);
        moment(due, "p60,3;".repeat(12), 458865, OVER);
        due.is("no RAIL", new SlewRails().moment(MOST), STATE);
    }

    private static void moment(Due due, String text, int w, long told) {
        SlewRails x = Due.of(text);
        due.is("moment(" + w + ") of " + text, x.moment(w), told);
        due.is("status()", x.status(), told == OVER ? 6 : 0);
    }

    private static void momentOnTheWay(Due due) {
        due.sentence("each product, each sum exact, else OVER.");
        SlewRails x = Due.of("p0,3;p1,3;p0,3;");
        x.lay(0, -1);
        due.are("NOW", Due.pegs(x, 4), -2, 2, 0);
        due.is("-2 and 4 times this", x.moment(536870911), 1073741822);
        due.is("a product beyond, though no sum is", x.moment(536870912), OVER);
        due.is("a product that is the least int", x.moment(-536870912), -1073741824);
        due.is("a product beyond, below", x.moment(-536870913), OVER);
        SlewRails y = Due.of("p10,3;p0,3;p0,3;");
        y.lay(2, -1);
        due.are("NOW", Due.pegs(y, 4), 10, 1, -2);
        due.is("10 and 2 and -6 times this", y.moment(178956970), 1073741820);
        due.is("a sum beyond on the way, though not at last", y.moment(178956971), OVER);
        due.is("a sum beyond, below, on the way", y.moment(-178956971), OVER);
        due.is("status()", y.status(), 6);
        due.is("a sum within, below, on the way", y.moment(-178956970), -1073741820);
        due.is("status()", y.status(), 0);
    }

    private static SlewRails row(SlewRails x, int lane, int... items) {
        x.row(0, lane, items.length);
        for (int i = 0; i < items.length; i++) {
            x.set(0, i, items[i]);
        }
        return x;
    }

    private static void fitsSlews(Due due) {
        due.sentence("SLEWS (bit 3 more than the SLEW: 0 to 6) of a PEG within REACH by which it is so, in place of its own;");
        for (int bound = 0; bound <= 3; bound++) {
            for (int v = -4; v <= 4; v++) {
                String text = "p30,3;p30," + bound + ";p30,3;";
                SlewRails x = row(Due.of(text), 2, 30 - v, 30 + 2 * v, 30 - v);
                int bit = Math.abs(v) <= bound ? 1 << (v + 3) : 0;
                due.is("fits(1, 0, 3, 0) by " + v + " of " + text, x.fits(1, 0, 3, 0), bit);
                due.is("fits(1, 0, 1, 0) by " + v + " of " + text, x.fits(1, 0, 1, 0), bit);
                x.lay(1, -bound);
                due.is("in place of its own", x.fits(1, 0, 2, 0), bit);
                due.is("its own stays", x.peg(1, 3), -bound);
            }
        }
        SlewRails unseen = row(Due.of("p30,3;p30,3;p30,3;s9,3;j9,2;b9,3;p9,1;p9,0;"), 1, 30);
        due.is("all, as none is seen", unseen.fits(2, 0, 1, 0), 127);
        due.is("all of a soft one", unseen.fits(3, 0, 1, 0), 62);
        due.is("all of BOUND 2", unseen.fits(4, 0, 1, 0), 62);
        due.is("all of a bridge", unseen.fits(5, 0, 1, 0), 8);
        due.is("all of BOUND 1", unseen.fits(6, 0, 1, 0), 28);
        due.is("all of BOUND 0", unseen.fits(7, 0, 1, 0), 8);
        unseen.set(0, 0, 31);
        due.is("none", unseen.fits(2, 0, 1, 0), 0);
    }

    private static void fitsVersines(Due due) {
        due.sentence("VERSINES (0 to 60) of it: how many; the least; NONE.");
        for (int v = -2; v <= 62; v++) {
            SlewRails x = row(Due.of("p30,3;p30,3;p30,3;"), 0, 30, v, 30);
            boolean isOne = v >= 0 && v <= 60;
            due.is("how many of " + v, x.fits(1, 0, 3, 1), isOne ? 1 : 0);
            due.is("the least of " + v, x.fits(1, 0, 3, 2), isOne ? v : NONE);
            x.lay(1, 1);
            x.row(0, 0, 2);
            x.set(0, 0, 29);
            x.set(0, 1, v + 2);
            due.is("by the SLEWS that are laid, " + v, x.fits(1, 0, 2, 2), isOne ? v : NONE);
        }
        SlewRails unseen = row(Due.of("p30,3;p30,3;p30,3;"), 2, 30, 30);
        due.is("all, as none is seen", unseen.fits(2, 0, 2, 1), 61);
        due.is("the least of all", unseen.fits(2, 0, 2, 2), 0);
        due.is("nothing changes", unseen.peg(2, 0), 30);
        unseen.set(0, 1, 29);
        due.is("none, as another is not so", unseen.fits(2, 0, 2, 1), 0);
        due.is("NONE, as another is not so", unseen.fits(2, 0, 2, 2), NONE);
        due.is("none, as another is not so", unseen.fits(0, 0, 2, 1), 0);
        due.is("1 of the first alone", unseen.fits(0, 0, 1, 1), 1);
    }

    private static void fitsWhat(Due due) {
        due.sentence("SLEWS (what = 0), VERSINES: how many (1), the least (2; NONE), by NOW");
        SlewRails x = row(Due.of("p30,3;p30,3;p30,3;"), 0, 24, 33, 30);
        due.is("what -1", x.fits(0, 0, 3, -1), BAD);
        due.is("what 0", x.fits(0, 0, 3, 0), 1);
        due.is("what 1", x.fits(0, 0, 1, 1), 1);
        due.is("what 2", x.fits(0, 0, 1, 2), 24);
        due.is("what 2, NONE", x.fits(0, 0, 3, 2), NONE);
        due.is("status() behind NONE", x.status(), 0);
        due.is("what 3", x.fits(0, 0, 3, 3), BAD);
    }

    private static void fitsMany(Due due) {
        due.sentence("A row tells NOW of n PEGS (1 to 12) from PEG 0 on.");
        for (int pegs : new int[] {3, 11, 12}) {
            for (int items = pegs - 1; items <= pegs + 1; items++) {
                SlewRails x = Due.of("p0,3;".repeat(pegs));
                x.row(0, 1, items);
                for (int n = -1; n <= 14; n++) {
                    String call = pegs + " PEGS, " + items + " ITEMS, fits(" + (pegs - 1) + ", 0, " + n + ", 0)";
                    // the SLEW of the last PEG is seen in the one ahead of it
                    int told = n < pegs - 1 ? 127 : 8;
                    due.is(call, x.fits(pegs - 1, 0, n, 0), n < 1 || n > pegs ? BAD : n > items ? PLACE : told);
                }
            }
        }
    }

    private static void tell(Due due) {
        due.sentence("NOW of PEGS from a PEG on comes into ITEMS of a ROW from i on, to its end, or the last PEG (each its "
            + "lowest bits): how many.");
        for (int peg = -1; peg <= 4; peg++) {
            for (int i = -1; i <= 6; i++) {
                SlewRails x = Due.of("p11,3;p12,3;p13,3;p14,3;");
                x.row(0, 2, 5);
                boolean isPeg = peg >= 0 && peg <= 3;
                boolean isPlace = i >= 0 && i <= 5;
                int many = Math.min(4 - peg, 5 - i);
                due.is("tell(" + peg + ", 0, " + i + ")", x.tell(peg, 0, i), !isPeg ? BAD : !isPlace ? PLACE : many);
                long[] due5 = new long[5];
                for (int k = 0; isPeg && isPlace && k < many; k++) {
                    due5[i + k] = 11 + peg + k;
                }
                due.are("ITEMS behind it", Due.items(x, 0, 2, 5), due5);
            }
        }
        SlewRails most = Due.of("p1,3;".repeat(11) + "p2,3;");
        most.row(0, 0, 40);
        due.is("12 PEGS to 40 ITEMS", most.tell(0, 0, 28), 12);
        due.is("the last ITEM", Due.item(most, 0, 0, 39), 2);
        due.is("the ITEM ahead of them", Due.item(most, 0, 0, 27), 0);
        due.is("11 of 12", most.tell(0, 0, 29), 11);
    }

    /** 28 times SLEW 3 bring 0 4 0 to -84 172 -84; 172 less 256 is -84. */
    private static void tellLowestBits(Due due) {
        due.sentence("(each its lowest bits)");
        SlewRails x = Due.of("e0,3;p4,3;e0,3;");
        for (int k = 0; k < 28; k++) {
            x.lay(1, 3);
            x.work();
        }
        due.are("VERSINES", Due.pegs(x, 0), -84, 172, -84);
        for (int lane = 0; lane <= 2; lane++) {
            x.row(0, lane, 1);
            due.is("tell(1, 0, 0)", x.tell(1, 0, 0), 1);
            due.is("LANE " + lane + ": it is what PEG 0 is NOW", x.fits(2, 0, 1, 1), lane == 0 ? 61 : 0);
            due.is("tell(0, 0, 0)", x.tell(0, 0, 0), 1);
            due.is("LANE " + lane + ": below 0", x.fits(2, 0, 1, 1), 61);
        }
    }

    /** Settled 33 26 34 .. 27, the greatest STEP 8; with one that is not settled 9 at least; with none 16. */
    private static SlewRails softOnes() {
        SlewRails x = Due.of("s30,3;".repeat(12));
        for (int p = 0; p < 12; p++) {
            x.lay(p, p % 2 == 0 ? 2 : -2);
        }
        return x;
    }

    private static void chances(Due due) {
        due.sentence("All that is divided is cut towards 0, but fractions, told as two numbers in lowest terms (0 is 0 by 1).");
        SlewRails x = softOnes();
        due.is("WORST", x.line(0), 16);
        long[][] told = {{0, 1}, {1, 1000000000000L}, {1, 244140625}, {531441, 1000000000000L}, {4096, 244140625}, {1, 4096},
            {531441, 244140625}, {13841287201L, 1000000000000L}, {16777216, 244140625}, {282429536481L, 1000000000000L},
            {1, 1}};
        for (int c = 0; c <= 10; c++) {
            due.is("all settled by " + c + " of 10, above", x.chance(8, c, 0), told[c][0]);
            due.is("all settled by " + c + " of 10, below", x.chance(8, c, 1), told[c][1]);
            due.is("never, above", x.chance(7, c, 0), 0);
            due.is("never, below", x.chance(7, c, 1), 1);
            due.is("ever, above", x.chance(16, c, 0), 1);
            due.is("ever, below", x.chance(16, c, 1), 1);
            due.is("15, above", x.chance(15, c, 0) == 1 ? 1 : 0, c == 10 ? 1 : 0);
        }
        due.is("c -1", x.chance(8, -1, 0), BAD);
        due.is("c 11", x.chance(8, 11, 0), BAD);
    }

    private static void chanceOfSmall(Due due) {
        due.sentence("CHANCE: the SLEW of each soft PEG is less by half of itself (cut) by c of 10, each by itself: that WORST "
            + "is v or less then (0 to 99): a fraction.");
        for (int v = 0; v <= 1; v++) {
            SlewRails x = Due.of("e0,0;p" + v + ",3;e0,0;");
            for (int k = 0; k < 11; k++) {
                x.lay(1, 3);
                x.work();
            }
            due.is("WORST", x.line(0), 99 + v);
            due.is("99 or less", x.chance(99, 5, 0), 1 - v);
            due.is("99 or less, below", x.chance(99, 5, 1), 1);
            due.is("98 or less", x.chance(98, 5, 0), 0);
            due.is("100", x.chance(100, 5, 0), BAD);
        }
        SlewRails even = Due.of("s9,3;s9,3;s9,3;");
        due.is("0 or less", even.chance(0, 5, 0), 1);
        due.is("-1", even.chance(-1, 5, 0), BAD);
        even.lay(1, 1);
        due.is("half of 1 is 0: 3 or less by any", even.chance(3, 5, 0), 1);
        due.is("half of 1 is 0: not 2", even.chance(2, 10, 0), 0);
        even.lay(1, -2);
        due.is("-2 settles to -1: 3 or less, above", even.chance(3, 7, 0), 7);
        due.is("-2 settles to -1: 3 or less, below", even.chance(3, 7, 1), 10);
        due.is("what 0, 1", even.chance(6, 7, 0) + even.chance(6, 7, 1), 2);
        due.is("what 2", even.chance(6, 7, 2), BAD);
        due.is("what -1", even.chance(6, 7, -1), BAD);
        due.is("no RAIL", new SlewRails().chance(100, 11, 2), STATE);
    }

    /** The same years by calls, from SLEWS that are laid. */
    private static void years(Due due) {
        due.sentence("ahead of each X becomes the rest of (X times 16807) by 2147483647; the PEG that is the rest of X by "
            + "how many there are gets the SLEW that is the rest of X by 7 less 3, if that is within its REACH; behind each "
            + "fifth of these all are WORKED IN: WORST at last; how often a SLEW was laid.");
        String[] texts = {"p10,3;p20,3;p30,3;", "s0,3;p60,3;s0,2;j9,3;b9,3;e9,3;s60,1;p1,0;p2,1;p3,2;s4,3;p5,3;"};
        for (String text : texts) {
            for (int seed : new int[] {1, 2, 127773, 127774, 999998, 999999}) {
                yearsByCalls(due, text, seed);
            }
        }
        SlewRails held = Due.of("b0,3;e60,3;s0,1;p0,0;");
        due.is("SLEW 0 alone is laid: WORST", held.drawn(60, 999999, 0), 60);
        due.holds("SLEW 0 alone is laid: how often", held.drawn(60, 999999, 1) > 0 && held.drawn(60, 999999, 1) < 30);
    }

    private static void yearsByCalls(Due due, String text, int seed) {
        SlewRails x = Due.of(text);
        SlewRails y = Due.of(text);
        x.lay(0, -2);
        y.lay(0, -2);
        BigInteger rest = BigInteger.valueOf(seed);
        BigInteger by = BigInteger.valueOf(2147483647);
        int laid = 0;
        for (int n = 0; n <= 60; n++) {
            due.is(text + " drawn(" + n + ", " + seed + ", 0)", x.drawn(n, seed, 0), y.line(0));
            due.is(text + " drawn(" + n + ", " + seed + ", 1)", x.drawn(n, seed, 1), laid);
            rest = rest.multiply(BigInteger.valueOf(16807)).mod(by);
            int drawn = rest.intValueExact();
            laid += y.lay(drawn % y.count(1), drawn % 7 - 3) == STATE ? 0 : 1;
            if (n % 5 == 4) {
                y.work();
            }
        }
    }

    private static void yearsEnds(Due due) {
        due.sentence("YEARS of n times (0 to 60) by a SEED (X at first)");
        SlewRails x = Due.of("p10,3;p20,3;p30,3;");
        for (int n = -2; n <= 62; n++) {
            due.holds("drawn(" + n + ", 1, 0)", (n < 0 || n > 60) == (x.drawn(n, 1, 0) == BAD));
        }
        due.sentence("YEARS by a SEED (1 to 999999)");
        for (int seed : new int[] {LEAST, -1, 0, 1000000, 2147483646, MOST}) {
            due.is("drawn(0, " + seed + ", 0)", x.drawn(0, seed, 0), BAD);
            due.is("drawn(0, " + seed + ", 1)", x.drawn(0, seed, 1), BAD);
        }
        for (int seed : new int[] {1, 2, 999998, 999999}) {
            due.is("drawn(0, " + seed + ", 0)", x.drawn(0, seed, 0), 10);
            due.is("drawn(0, " + seed + ", 1)", x.drawn(0, seed, 1), 0);
        }
        due.is("what -1", x.drawn(0, 1, -1), BAD);
        due.is("what 2", x.drawn(0, 1, 2), BAD);
        due.is("no RAIL ahead of BAD", new SlewRails().drawn(61, 0, 2), STATE);
    }

    private static void line(Due due) {
        due.sentence("0 WORST, 1 UNEVEN, 2 VERSINES NOW, together, 3 all SLEWS, together, 4 whether it CLOSES (1, 0). BAD; "
            + "STATE: no RAIL (ahead of BAD).");
        SlewRails x = Due.of("p10,3;p20,3;p35,3;");
        long[] told = {BAD, BAD, 15, 25, 65, 0, 0, BAD, BAD};
        for (int what = -2; what <= 6; what++) {
            due.is("line(" + what + ")", x.line(what), told[what + 2]);
            due.is("line(" + what + "), no RAIL", new SlewRails().line(what), STATE);
        }
        x.lay(0, 3);
        x.lay(1, -1);
        due.is("SLEWS, together", x.line(3), 2);
        due.is("VERSINES NOW, together", x.line(2), 17 + 15 + 36);
    }

    public static void main(String[] args) {
        Due due = new Due("ForetoldEdgesTest");
        wish(due);
        secondSum(due);
        closes(due);
        line(due);
        bestOfSeveral(due);
        bestInPlace(due);
        bestOfAnother(due);
        bestOfWhat(due);
        wrongs(due);
        moment(due);
        momentOnTheWay(due);
        fitsSlews(due);
        fitsVersines(due);
        fitsWhat(due);
        fitsMany(due);
        tell(due);
        tellLowestBits(due);
        chances(due);
        chanceOfSmall(due);
        years(due);
        yearsEnds(due);
        due.end();
    }
}
