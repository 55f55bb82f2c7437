/** Promises 15 and 16: peg, line. */
public final class PegsTest {
    private static final int BAD = SlewRails.BAD, STATE = SlewRails.STATE, NONE = SlewRails.NONE;

    private static void peg(Due due) {
        SlewRails x = Due.of("p10,3;s20,3;j30,2;b5,3;e7,1;");
        due.are("VERSINE", Due.pegs(x, 0), 10, 20, 30, 5, 7);
        due.are("BOUND", Due.pegs(x, 1), 3, 3, 2, 3, 1);
        due.are("REACH", Due.pegs(x, 2), 3, 2, 2, 0, 0);
        due.are("SLEW", Due.pegs(x, 3), 0, 0, 0, 0, 0);
        due.are("NOW", Due.pegs(x, 4), 10, 20, 30, 5, 7);
        due.are("STEP", Due.pegs(x, 5), 10, 0, 0, 2, NONE);
        due.are("WISH", Due.pegs(x, 6), 10, 10, 9, 8, 7);
        due.are("SECOND SUM", Due.pegs(x, 7), 0, 0, -10, -41, -69);
        x.lay(1, 2);
        x.lay(0, -3);
        due.are("SLEW, laid", Due.pegs(x, 3), -3, 2, 0, 0, 0);
        due.are("NOW, laid", Due.pegs(x, 4), 2, 27, 28, 5, 7);
        due.are("STEP, laid", Due.pegs(x, 5), 25, 0, 0, 2, NONE);
        due.are("WISH is by VERSINES", Due.pegs(x, 6), 10, 10, 9, 8, 7);
        due.are("SECOND SUM is by VERSINES", Due.pegs(x, 7), 0, 0, -10, -41, -69);
        due.is("peg(0, 8)", x.peg(0, 8), BAD);
        due.is("peg(0, -1)", x.peg(0, -1), BAD);
        due.is("peg(5, 0)", x.peg(5, 0), BAD);
        due.is("peg(-1, 0)", x.peg(-1, 0), BAD);
        due.is("no RAIL", new SlewRails().peg(0, 0), BAD);
        SlewRails y = Due.of("s0,0;j5,3;j9,1;p60,0;");
        due.are("REACH of soft ones is 0 at least", Due.pegs(y, 2), 0, 3, 1, 0);
        due.are("STEP at joints", Due.pegs(y, 5), 0, 0, 0, NONE);
        due.are("WISH upward", Due.pegs(y, 6), 0, 20, 40, 60);
    }

    private static void line(Due due) {
        SlewRails x = Due.of("p10,3;s20,3;j30,2;b5,3;e7,1;");
        due.is("WORST", x.line(0), 10);
        due.is("UNEVEN", x.line(1), 12);
        due.is("VERSINES NOW", x.line(2), 72);
        due.is("SLEWS", x.line(3), 0);
        due.is("CLOSES", x.line(4), 0);
        x.lay(1, 2);
        x.lay(0, -3);
        due.is("WORST, laid", x.line(0), 25);
        due.is("UNEVEN, laid", x.line(1), 27);
        due.is("VERSINES NOW, laid", x.line(2), 69);
        due.is("SLEWS, laid", x.line(3), -1);
        due.is("line(5)", x.line(5), BAD);
        due.is("line(-1)", x.line(-1), BAD);
        due.is("no RAIL", new SlewRails().line(0), STATE);
        due.is("no RAIL ahead of BAD", new SlewRails().line(9), STATE);
        due.is("joints all over", Due.of("j0,0;j60,0;j0,0;").line(0), 0);
    }

    private static void closes(Due due) {
        due.is("even", Due.of("p10,0;p10,0;p10,0;").line(4), 1);
        due.is("a straight run, cut", Due.of("p10,0;p10,0;p11,0;").line(4), 1);
        due.is("both 0", Due.of("p10,0;p11,0;p8,0;p11,0;p10,0;").line(4), 1);
        due.is("differences 0, SECOND SUM not", Due.of("p10,0;p11,0;p9,0;p10,0;").line(4), 0);
        due.is("SECOND SUM 0, differences not", Due.of("p10,0;p9,0;p12,0;p10,0;").line(4), 0);
        SlewRails x = Due.of("p10,3;p10,3;p10,3;");
        x.lay(1, 3);
        due.is("by VERSINES, not by NOW", x.line(4), 1);
    }

    public static void main(String[] args) {
        Due due = new Due("PegsTest");
        peg(due);
        line(due);
        closes(due);
        due.end();
    }
}
