/** Promises 18 to 21 and 23: wrong, moment, fits, tell, drawn. */
public final class ForetoldTest {
    private static final int BAD = SlewRails.BAD, STATE = SlewRails.STATE, NONE = SlewRails.NONE;
    private static final int NULL = -1000011, PLACE = -1000012, OVER = -1000016;

    private static void wrong(Due due) {
        SlewRails x = Due.of("p10,3;p10,3;p40,3;p12,3;p12,3;");
        due.is("which", x.wrong(0), 2);
        due.is("of several the least VERSINE", x.wrong(1), 10);
        x.lay(1, 3);
        due.is("all SLEWS being 0", x.wrong(1), 10);
        due.is("nothing changes", x.peg(1, 3), 3);
        due.is("nothing changes", x.peg(2, 0), 40);
        due.is("wrong(2)", x.wrong(2), BAD);
        due.is("wrong(-1)", x.wrong(-1), BAD);
        due.is("no RAIL", new SlewRails().wrong(0), STATE);
        due.is("no RAIL ahead of BAD", new SlewRails().wrong(2), STATE);
        SlewRails even = Due.of("p10,3;p10,3;p10,3;");
        due.is("none", even.wrong(0), NONE);
        due.is("none, VERSINE", even.wrong(1), NONE);
        even.lay(1, 3);
        due.is("none by all SLEWS being 0", even.wrong(0), NONE);
        SlewRails two = Due.of("p10,3;p20,3;p30,3;");
        due.is("of several the first", two.wrong(0), 0);
        due.is("its VERSINE", two.wrong(1), 20);
        SlewRails joint = Due.of("p10,3;p20,3;j60,3;p30,3;p30,3;");
        due.is("a joint is none's STEP", joint.wrong(0), 0);
        due.is("its VERSINE", joint.wrong(1), 20);
        SlewRails last = Due.of("p20,3;p20,3;p60,3;");
        due.is("the last one", last.wrong(0), 2);
        due.is("its VERSINE", last.wrong(1), 20);
        SlewRails least = Due.of("p1,3;p0,3;p0,3;");
        due.is("PEG 0, by no more than 1", least.wrong(0), 0);
        due.is("VERSINE 0", least.wrong(1), 0);
        due.is("VERSINE 60", Due.of("p0,3;p60,3;p60,3;").wrong(1), 60);
    }

    private static void wrongBeyond(Due due) {
        SlewRails x = Due.of("e0,3;p0,3;e0,3;");
        for (int k = 0; k < 30; k++) {
            x.lay(1, 3);
            x.work();
        }
        due.are("VERSINES beyond 60 and 0", Due.pegs(x, 0), -90, 180, -90);
        due.is("which", x.wrong(0), 1);
        due.is("the nearest that is one", x.wrong(1), 0);
    }

    private static void moment(Due due) {
        SlewRails x = Due.of("p10,3;p20,3;p30,3;");
        due.is("moment(1)", x.moment(1), 140);
        due.is("moment(-2)", x.moment(-2), -280);
        due.is("moment(0)", x.moment(0), 0);
        x.lay(1, 1);
        due.is("NOW", x.moment(1), 9 + 44 + 87);
        due.is("no RAIL", new SlewRails().moment(1), STATE);
        SlewRails one = Due.of("p0,3;p0,3;p1,3;");
        due.is("up to an int", one.moment(715827882), 2147483646);
        due.is("status()", one.status(), 0);
        due.is("a product beyond", one.moment(715827883), OVER);
        due.is("status()", one.status(), 6);
        due.is("down to an int", one.moment(-715827882), -2147483646);
        due.is("a product beyond below", one.moment(-715827883), OVER);
        due.is("LEAST", one.moment(Integer.MIN_VALUE), OVER);
        SlewRails sum = Due.of("p2,3;p1,3;p0,3;");
        due.is("a sum up to an int", sum.moment(536870911), 2147483644);
        due.is("a sum beyond", sum.moment(536870912), OVER);
        due.is("a sum down to an int", sum.moment(-536870912), -2147483648);
        SlewRails most = Due.of("p1,3;p0,3;p0,3;");
        due.is("the greatest int", most.moment(Integer.MAX_VALUE), Integer.MAX_VALUE);
        due.is("the least int", most.moment(Integer.MIN_VALUE), Integer.MIN_VALUE);
    }

    private static void momentOnTheWay(Due due) {
        SlewRails x = Due.of("p10,3;p0,3;p0,3;");
        x.lay(2, -1);
        due.are("NOW", Due.pegs(x, 4), 10, 1, -2);
        due.is("moment(1)", x.moment(1), 10 + 2 - 6);
        due.is("12 times this is an int", x.moment(178956970), 1073741820);
        due.is("a sum beyond on the way, though not at last", x.moment(178956971), OVER);
    }

    private static void fits(Due due) {
        SlewRails x = Due.of("p10,3;s20,3;p30,2;b7,3;");
        x.row(0, 2, 5);
        x.tell(0, 0, 0);
        due.is("SLEW as it is", x.fits(0, 0, 4, 0), 8);
        due.is("VERSINE as it is", x.fits(1, 0, 4, 1), 1);
        due.is("which", x.fits(1, 0, 4, 2), 20);
        due.is("any SLEW that is not seen", x.fits(2, 0, 1, 0), 2 + 4 + 8 + 16 + 32);
        due.is("any VERSINE that is not seen", x.fits(2, 0, 1, 1), 61);
        due.is("the least", x.fits(2, 0, 1, 2), 0);
        due.is("a soft one's REACH", x.fits(1, 0, 1, 0), 8);
        due.is("a bridge's REACH", x.fits(3, 0, 1, 0), 8);
        x.set(0, 0, 8);
        due.is("by its neighbour: 10 less 2", x.fits(1, 0, 1, 0), 32);
        due.is("by itself: 10 and twice -1", x.fits(0, 0, 1, 0), 4);
        due.is("by VERSINE", x.fits(0, 0, 1, 2), 8);
        due.is("no SLEW", x.fits(3, 0, 1, 0), 0);
        due.is("no VERSINE", x.fits(3, 0, 1, 1), 0);
        due.is("NONE", x.fits(3, 0, 1, 2), NONE);
        x.lay(1, 2);
        due.is("in place of its own", x.fits(1, 0, 1, 0), 32);
        due.is("VERSINE with the SLEWS there are", x.fits(0, 0, 1, 2), 10);
        due.is("nothing changes", x.peg(1, 3), 2);
        x.set(0, 0, -1000);
        due.is("beyond all", x.fits(0, 0, 1, 2), NONE);
        x.set(0, 0, 58);
        due.is("VERSINE 60", x.fits(0, 0, 1, 2), 60);
        due.is("VERSINE 60, too", x.fits(0, 0, 1, 1), 1);
        x.set(0, 0, 59);
        due.is("VERSINE 61 is none", x.fits(0, 0, 1, 1), 0);
    }

    private static void fitsRefused(Due due) {
        SlewRails x = Due.of("p10,3;s20,3;p30,2;b7,3;");
        x.row(0, 2, 4);
        x.row(1, 2, 3);
        due.is("PEG", x.fits(4, 0, 1, 0), BAD);
        due.is("PEG", x.fits(-1, 0, 1, 0), BAD);
        due.is("ROW", x.fits(0, 8, 1, 0), BAD);
        due.is("ROW", x.fits(0, -1, 1, 0), BAD);
        due.is("n 0", x.fits(0, 0, 0, 0), BAD);
        due.is("n above PEGS", x.fits(0, 0, 5, 0), BAD);
        due.is("n above PEGS ahead of NULL", x.fits(0, 2, 5, 0), BAD);
        due.is("what", x.fits(0, 0, 1, 3), BAD);
        due.is("what", x.fits(0, 2, 1, -1), BAD);
        due.is("NULL", x.fits(0, 2, 4, 0), NULL);
        due.is("PLACE", x.fits(0, 1, 4, 0), PLACE);
        due.is("status()", x.status(), 2);
        due.is("as many as the ROW has", x.fits(0, 1, 3, 0), 0);
        due.is("status()", x.status(), 0);
        due.is("no RAIL", new SlewRails().fits(0, 0, 1, 0), BAD);
    }

    private static void fitsLanes(Due due) {
        SlewRails x = Due.of("e0,3;p60,3;e0,3;");
        for (int k = 0; k < 20; k++) {
            x.lay(1, 3);
            x.work();
        }
        due.is("VERSINE", x.peg(1, 0), 180);
        x.row(0, 0, 3);
        x.row(1, 1, 3);
        x.tell(0, 0, 0);
        x.tell(0, 1, 0);
        due.is("a byte has lost NOW", x.fits(1, 0, 3, 0), 0);
        due.is("a short has it", x.fits(1, 1, 3, 0), 8);
        due.is("a VERSINE beyond 60 is none", x.fits(1, 1, 3, 1), 0);
    }

    private static void tell(Due due) {
        SlewRails x = Due.of("p10,3;p20,3;p30,3;p40,3;");
        x.row(0, 0, 6);
        due.is("tell(0, 0, 0)", x.tell(0, 0, 0), 4);
        due.are("ITEMS", Due.items(x, 0, 0, 6), 10, 20, 30, 40, 0, 0);
        due.is("to the last PEG", x.tell(2, 0, 1), 2);
        due.are("ITEMS", Due.items(x, 0, 0, 6), 10, 30, 40, 40, 0, 0);
        due.is("to its end", x.tell(1, 0, 5), 1);
        due.are("ITEMS", Due.items(x, 0, 0, 6), 10, 30, 40, 40, 0, 20);
        due.is("at its end", x.tell(0, 0, 6), 0);
        due.is("beyond", x.tell(0, 0, 7), PLACE);
        due.is("below 0", x.tell(0, 0, -1), PLACE);
        due.is("status()", x.status(), 2);
        due.is("MOST", x.tell(0, 0, Integer.MAX_VALUE), PLACE);
        due.is("missing", x.tell(0, 1, 0), NULL);
        due.is("NULL ahead of PLACE", x.tell(0, 1, -1), NULL);
        due.is("status()", x.status(), 1);
        due.is("PEG", x.tell(4, 0, 0), BAD);
        due.is("PEG", x.tell(-1, 0, 0), BAD);
        due.is("ROW", x.tell(0, 8, 0), BAD);
        due.is("ROW", x.tell(0, -1, 0), BAD);
        due.is("the last PEG", x.tell(3, 0, 0), 1);
        due.is("status()", x.status(), 0);
        x.lay(3, 1);
        due.is("NOW", x.tell(2, 0, 0), 2);
        due.are("ITEMS", Due.items(x, 0, 0, 2), 29, 42);
        due.is("no RAIL", new SlewRails().tell(0, 0, 0), BAD);
    }

    /** X by 1: 16807, 282475249, 1622650073, 984943658, 1144108930, 470211272. */
    private static void drawn(Due due) {
        SlewRails x = Due.of("p10,3;p10,3;p10,3;");
        due.is("no time", x.drawn(0, 1, 0), 0);
        due.is("no time, how often", x.drawn(0, 1, 1), 0);
        // 16807: PEG 1, SLEW 0 less 3
        due.is("one time", x.drawn(1, 1, 0), 9);
        due.is("one time, how often", x.drawn(1, 1, 1), 1);
        // 282475249: PEG 1, SLEW 0 less 3
        due.is("two times", x.drawn(2, 1, 0), 9);
        due.is("two times, how often", x.drawn(2, 1, 1), 2);
        due.is("nothing changes", x.line(0) + x.count(4) + x.count(3), 0);
        x.lay(0, 1);
        due.is("from the SLEWS there are", x.drawn(0, 1, 0), 3);
        SlewRails y = Due.of("b10,3;b10,3;b10,3;");
        due.is("never within REACH", y.drawn(1, 1, 1), 0);
        due.is("n 61", x.drawn(61, 1, 0), BAD);
        due.is("n -1", x.drawn(-1, 1, 0), BAD);
        due.is("seed 0", x.drawn(1, 0, 0), BAD);
        due.is("seed 1000000", x.drawn(1, 1000000, 0), BAD);
        due.holds("seed 999999", x.drawn(60, 999999, 0) >= 0);
        due.is("what 2", x.drawn(1, 1, 2), BAD);
        due.is("what -1", x.drawn(1, 1, -1), BAD);
        due.is("no RAIL", new SlewRails().drawn(1, 1, 0), STATE);
        due.is("no RAIL ahead of BAD", new SlewRails().drawn(61, 1, 0), STATE);
    }

    /** The same years by calls: lay what is drawn, work behind each fifth time. */
    private static void drawnByCalls(Due due, String text, int seed) {
        SlewRails x = Due.of(text);
        SlewRails y = Due.of(text);
        long rest = seed;
        int laid = 0;
        for (int n = 1; n <= 60; n++) {
            rest = rest * 16807 % 2147483647;
            if (y.lay((int) (rest % y.count(1)), (int) (rest % 7) - 3) != STATE) {
                laid++;
            }
            if (n % 5 == 0) {
                y.work();
            }
            due.is(text + " drawn(" + n + ", " + seed + ", 0)", x.drawn(n, seed, 0), y.line(0));
            due.is(text + " drawn(" + n + ", " + seed + ", 1)", x.drawn(n, seed, 1), laid);
        }
    }

    public static void main(String[] args) {
        Due due = new Due("ForetoldTest");
        wrong(due);
        wrongBeyond(due);
        moment(due);
        momentOnTheWay(due);
        fits(due);
        fitsRefused(due);
        fitsLanes(due);
        tell(due);
        drawn(due);
        drawnByCalls(due, "p10,3;s20,3;p30,3;s5,2;p9,1;", 12345);
        drawnByCalls(due, "s10,3;s20,3;s30,3;s5,3;b9,3;j7,3;p60,3;", 999999);
        due.end();
    }
}
