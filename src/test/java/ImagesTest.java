/** Promises 24 and 25: image, restore. */
public final class ImagesTest {
    private static final int BAD = SlewRails.BAD, STATE = SlewRails.STATE;

    private static void refused(Due due) {
        SlewRails x = new SlewRails();
        due.is("image(2)", x.image(2), BAD);
        due.is("image(-1)", x.image(-1), BAD);
        due.is("image(0), no RAIL", x.image(0), STATE);
        due.is("restore(2)", x.restore(2), BAD);
        due.is("restore(-1)", x.restore(-1), BAD);
        due.is("restore(0), none", x.restore(0), STATE);
        Due.read(x, "p10,3;s20,2;p30,3;");
        due.is("image(1)", x.image(1), 1);
        due.is("restore(0), none yet", x.restore(0), STATE);
    }

    private static void kept(Due due) {
        SlewRails x = Due.of("p10,3;s20,3;p30,3;");
        x.lay(0, 1);
        x.work();
        x.lay(0, 2);
        x.bound(2, 1);
        due.is("image(0)", x.image(0), 1);
        due.is("ACTS stay", x.count(4), 4);
        x.lay(1, 2);
        x.read(2, 50);
        x.bound(0, 0);
        x.work();
        due.is("image(1)", x.image(1), 1);
        Due.read(x, "e1,0;b2,1;j3,2;s4,3;");
        due.is("restore(0)", x.restore(0), 1);
        due.is("PEGS", x.count(1), 3);
        due.are("VERSINES", Due.pegs(x, 0), 12, 19, 30);
        due.are("BOUNDS", Due.pegs(x, 1), 3, 3, 1);
        due.are("SLEWS", Due.pegs(x, 3), 2, 0, 0);
        due.is("KIND", x.kind(1), 2);
        due.is("worked in as it was then", x.count(3), 1);
        due.is("no ACT can be undone", x.undo(), STATE);
        x.lay(0, -3);
        due.is("the IMAGE is its own: restore(0)", x.restore(0), 1);
        due.are("SLEWS", Due.pegs(x, 3), 2, 0, 0);
        due.is("no ACT can be undone", x.count(4), 0);
        due.is("restore(1)", x.restore(1), 1);
        due.are("VERSINES", Due.pegs(x, 0), 11, 21, 49);
        due.are("SLEWS", Due.pegs(x, 3), 0, 0, 0);
        due.is("worked in as it was then", x.count(3), 2);
        due.is("image(0) anew", x.image(0), 1);
        x.read(0, 5);
        x.restore(0);
        due.is("VERSINE", x.peg(0, 0), 11);
        due.is("a FAULT leaves IMAGES", Due.read(x, "x"), -1000100);
        due.is("restore(1)", x.restore(1), 1);
    }

    public static void main(String[] args) {
        Due due = new Due("ImagesTest");
        refused(due);
        kept(due);
        due.end();
    }
}
