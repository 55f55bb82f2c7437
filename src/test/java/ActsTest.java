/** Promises 9 to 14: lay, work, gang, read, bound, undo. */
public final class ActsTest {
    private static final int BAD = SlewRails.BAD, STATE = SlewRails.STATE;
    private static final String SORTS = "p10,3;s20,3;j30,2;b5,3;e7,1;";

    private static void lay(Due due) {
        SlewRails x = Due.of(SORTS);
        due.is("lay(0, 3)", x.lay(0, 3), 0);
        due.is("lay(0, -3)", x.lay(0, -3), 3);
        due.is("lay(1, 2)", x.lay(1, 2), 0);
        due.is("a soft one 1 less", x.lay(1, 3), STATE);
        due.is("a soft one 1 less, inward", x.lay(1, -3), STATE);
        due.is("a joint by its BOUND", x.lay(2, -2), 0);
        due.is("beyond REACH", x.lay(2, 3), STATE);
        due.is("a bridge", x.lay(3, 1), STATE);
        due.is("a bridge by 0", x.lay(3, 0), 0);
        due.is("an end", x.lay(4, -1), STATE);
        due.is("lay(0, 4)", x.lay(0, 4), BAD);
        due.is("lay(3, -4): BAD ahead of STATE", x.lay(3, -4), BAD);
        due.is("lay(0, LEAST)", x.lay(0, Integer.MIN_VALUE), BAD);
        due.is("lay(5, 0)", x.lay(5, 0), BAD);
        due.is("lay(-1, 0)", x.lay(-1, 0), BAD);
        due.are("SLEWS", Due.pegs(x, 3), -3, 2, -2, 0, 0);
        due.is("each one that is laid is an ACT", x.count(4), 5);
        due.is("no RAIL", new SlewRails().lay(0, 0), BAD);
    }

    private static void work(Due due) {
        SlewRails x = Due.of(SORTS);
        x.lay(1, 2);
        x.lay(0, -3);
        due.are("NOW", Due.pegs(x, 4), 2, 27, 28, 5, 7);
        due.is("how much was moved", x.work(), 5);
        due.are("VERSINES, half of the soft SLEW went back", Due.pegs(x, 0), 3, 25, 29, 5, 7);
        due.are("SLEWS", Due.pegs(x, 3), 0, 0, 0, 0, 0);
        due.is("worked in", x.count(3), 1);
        due.is("an ACT", x.count(4), 3);
        due.is("nothing to move", x.work(), 0);
        due.is("worked in", x.count(3), 2);
        due.is("no RAIL", new SlewRails().work(), STATE);
        SlewRails y = Due.of("s10,3;s20,3;s30,3;");
        y.lay(0, -2);
        y.lay(1, 1);
        due.is("moved inward", y.work(), 3);
        due.are("-2 goes back to -1, 1 stays", Due.pegs(y, 0), 7, 23, 29);
    }

    private static void workLimits(Due due) {
        SlewRails x = Due.of("e60,0;p0,3;e60,0;");
        for (int k = 0; k < 170; k++) {
            x.lay(1, 3);
            x.work();
        }
        due.are("VERSINES end at 999", Due.pegs(x, 0), 60 - 510, 999, 60 - 510);
        due.is("worked in", x.count(3), 170);
        SlewRails y = Due.of("e60,0;p0,3;e60,0;");
        for (int k = 0; k < 170; k++) {
            y.lay(1, -3);
            y.work();
        }
        due.are("VERSINES end at -999", Due.pegs(y, 0), 60 + 510, -999, 60 + 510);
        y.lay(1, -3);
        due.is("NOW goes beyond", y.peg(1, 4), -1005);
    }

    private static void gang(Due due) {
        SlewRails x = Due.of("p10,3;p14,3;p9,3;");
        due.is("gang(0, 1): PEG 0 by its own STEP", x.gang(0, 1), 4);
        due.are("SLEWS", Due.pegs(x, 3), 1, 0, 0);
        x.lay(1, 3);
        due.is("gang(1, 12)", x.gang(1, 12), 1);
        due.are("one PEG behind the other", Due.pegs(x, 3), 1, 0, 1);
        due.are("NOW", Due.pegs(x, 4), 12, 12, 11);
        due.is("ACTS", x.count(4), 4);
        due.is("undone one by one", x.undo(), 3);
        due.are("SLEWS", Due.pegs(x, 3), 1, 0, 0);
        x.undo();
        due.are("SLEWS", Due.pegs(x, 3), 1, 3, 0);
        due.is("gang(3, 1)", x.gang(3, 1), BAD);
        due.is("gang(-1, 1)", x.gang(-1, 1), BAD);
        due.is("gang(0, 0)", x.gang(0, 0), BAD);
        due.is("gang(0, 13)", x.gang(0, 13), BAD);
        due.is("gang(0, LEAST)", x.gang(0, Integer.MIN_VALUE), BAD);
        due.is("gang(2, MOST)", x.gang(2, Integer.MAX_VALUE), BAD);
        due.is("no RAIL", new SlewRails().gang(0, 1), BAD);
    }

    private static void gangAtJoints(Due due) {
        SlewRails x = Due.of("p0,3;j40,3;p20,3;b60,3;s0,3;");
        x.lay(0, 2);
        x.lay(1, -2);
        x.lay(2, 3);
        due.is("gang of all", x.gang(0, 5), 54);
        due.are("0 where the STEP is 0 anyway, REACH else", Due.pegs(x, 3), 0, 0, 0, 0, 2);
        due.is("ACTS, of those that stay, too", x.count(4), 8);
        SlewRails far = Due.of("p0,3;p0,3;p0,3;p9,3;p60,3;");
        due.is("gang(3, 1)", far.gang(3, 1), 60);
        due.are("by the STEP of the one ahead", Due.pegs(far, 3), 0, 0, 0, -3, 0);
        SlewRails y = Due.of("p0,2;p60,3;p0,3;");
        y.gang(0, 2);
        due.are("as far as REACH goes", Due.pegs(y, 3), 2, -3, 0);
    }

    private static void read(Due due) {
        SlewRails x = Due.of(SORTS);
        x.lay(1, 1);
        due.is("read(0, 60)", x.read(0, 60), 10);
        due.is("read(0, 0)", x.read(0, 0), 60);
        due.is("read(3, 9)", x.read(3, 9), 5);
        due.are("VERSINES", Due.pegs(x, 0), 0, 20, 30, 9, 7);
        due.is("SLEWS stay", x.peg(1, 3), 1);
        due.is("read(0, 61)", x.read(0, 61), BAD);
        due.is("read(0, -1)", x.read(0, -1), BAD);
        due.is("read(5, 1)", x.read(5, 1), BAD);
        due.is("read(-1, 1)", x.read(-1, 1), BAD);
        due.is("ACTS", x.count(4), 4);
    }

    private static void bound(Due due) {
        SlewRails x = Due.of(SORTS);
        x.lay(0, -3);
        x.lay(1, 2);
        due.is("bound(0, 1)", x.bound(0, 1), 3);
        due.is("the SLEW is the nearest within", x.peg(0, 3), -1);
        due.is("bound(1, 2)", x.bound(1, 2), 3);
        due.is("of a soft one, too", x.peg(1, 3), 1);
        due.is("bound(1, 0)", x.bound(1, 0), 2);
        due.is("REACH is 0 at least", x.peg(1, 2), 0);
        due.is("SLEW", x.peg(1, 3), 0);
        due.is("bound(0, 3)", x.bound(0, 3), 1);
        due.is("a SLEW within stays", x.peg(0, 3), -1);
        due.is("bound(3, 1) at a bridge", x.bound(3, 1), 3);
        due.is("its REACH", x.peg(3, 2), 0);
        due.is("bound(0, 4)", x.bound(0, 4), BAD);
        due.is("bound(0, -1)", x.bound(0, -1), BAD);
        due.is("bound(5, 0)", x.bound(5, 0), BAD);
        due.is("ACTS", x.count(4), 7);
        due.is("no RAIL", new SlewRails().bound(0, 0), BAD);
    }

    private static void undo(Due due) {
        SlewRails x = Due.of(SORTS);
        due.is("none", x.undo(), STATE);
        x.lay(0, 3);
        x.lay(1, 2);
        x.read(2, 40);
        x.bound(0, 2);
        x.work();
        due.is("of 5 the latest", x.undo(), 4);
        due.are("VERSINES ahead of work()", Due.pegs(x, 0), 10, 20, 40, 5, 7);
        due.are("SLEWS ahead of work()", Due.pegs(x, 3), 2, 2, 0, 0, 0);
        due.is("worked in is undone, too", x.count(3), 0);
        due.is("bound", x.undo(), 3);
        due.is("BOUND as it was", x.peg(0, 1), 3);
        due.is("SLEW as it was", x.peg(0, 3), 3);
        due.is("read", x.undo(), 2);
        due.is("VERSINE as it was", x.peg(2, 0), 30);
        due.is("lay", x.undo(), 1);
        due.is("lay", x.undo(), 0);
        due.are("SLEWS", Due.pegs(x, 3), 0, 0, 0, 0, 0);
        due.is("none", x.undo(), STATE);
        due.is("refused calls are no ACTS", x.lay(0, 4) + x.lay(3, 1) + x.read(0, 61) + x.bound(0, 4) + x.gang(9, 1),
            4L * BAD + STATE);
        due.is("none yet", x.undo(), STATE);
    }

    private static void oldest(Due due) {
        SlewRails x = Due.of(SORTS);
        for (int v = 1; v <= 30; v++) {
            x.read(0, v);
            due.is("ACTS behind " + v, x.count(4), Math.min(24, v));
        }
        for (int left = 23; left >= 0; left--) {
            due.is("undo, left", x.undo(), left);
            due.is("VERSINE then", x.peg(0, 0), 6 + left);
        }
        due.is("the oldest are forgotten", x.undo(), STATE);
        x.read(0, 60);
        due.is("one more", x.undo(), 0);
        due.is("VERSINE", x.peg(0, 0), 6);
    }

    public static void main(String[] args) {
        Due due = new Due("ActsTest");
        lay(due);
        work(due);
        workLimits(due);
        gang(due);
        gangAtJoints(due);
        read(due);
        bound(due);
        undo(due);
        oldest(due);
        due.end();
    }
}
