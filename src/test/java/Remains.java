import java.util.ArrayList;
import java.util.List;

/**
 * All that an object holds, as far as calls can tell, but status(): two objects that had the same calls tell the same.
 * The object is used up by it. With 5 PEGS and 5 ACTS it takes some 350 of the 512 calls.
 */
final class Remains {
    private final SlewRails x;
    private final List<String> all = new ArrayList<>();

    private Remains(SlewRails x) {
        this.x = x;
    }

    /** What comes behind the tape's bytes here makes a RAIL of the tape that Remains expects: "p4". */
    private static final String REST_OF_TAPE = ",3;p5,3;p6,3;";

    static List<String> of(SlewRails x) {
        Remains r = new Remains(x);
        r.counts();
        r.pegs("PEGS");
        r.acts();
        r.images();
        r.tape();
        r.rows();
        return r.all;
    }

    private void add(String what, long answer) {
        all.add(what + " " + answer);
    }

    private void counts() {
        for (int what = 0; what <= 5; what++) {
            add("count(" + what + ")", x.count(what));
        }
        add("fault()", x.fault());
        for (int i = 0; i <= 6; i++) {
            add("trace(" + i + ")", x.trace(i));
        }
    }

    private void pegs(String when) {
        int n = x.count(1);
        for (int p = 0; p < n; p++) {
            add(when + ": kind(" + p + ")", x.kind(p));
            for (int what = 0; what <= 7; what++) {
                add(when + ": peg(" + p + ", " + what + ")", x.peg(p, what));
            }
        }
        add(when + ": line(1)", x.line(1));
        add(when + ": best(2)", x.best(2));
        add(when + ": wrong(0)", x.wrong(0));
        add(when + ": count(3)", x.count(3));
    }

    private void acts() {
        int n = x.count(1);
        for (int left = x.count(4); left > 0; left--) {
            String when = "undo() " + x.undo();
            for (int p = 0; p < n; p++) {
                add(when + ": peg(" + p + ", 0)", x.peg(p, 0));
                add(when + ": peg(" + p + ", 1)", x.peg(p, 1));
                add(when + ": peg(" + p + ", 3)", x.peg(p, 3));
            }
        }
        add("undo()", x.undo());
    }

    private void images() {
        for (int k = 0; k <= 1; k++) {
            add("restore(" + k + ")", x.restore(k));
            int n = x.count(1);
            for (int p = 0; p < n; p++) {
                add("IMAGE " + k + ": peg(" + p + ", 0)", x.peg(p, 0));
                add("IMAGE " + k + ": peg(" + p + ", 1)", x.peg(p, 1));
                add("IMAGE " + k + ": peg(" + p + ", 3)", x.peg(p, 3));
            }
        }
    }

    private void tape() {
        Due.feed(x, REST_OF_TAPE);
        add("rail()", x.rail());
        add("fault() of the tape", x.fault());
        int n = x.count(1);
        for (int p = 0; p < n; p++) {
            add("tape: peg(" + p + ", 0)", x.peg(p, 0));
        }
    }

    /** ITEMS are found by fits(): PEG 0 has no SLEW and no neighbour with one behind this RAIL. */
    private void rows() {
        Due.read(x, "p0,0;p0,0;p0,0;");
        add("drop(7)", x.drop(7));
        for (int row = 0; row < 7; row++) {
            for (int lane = 0; lane <= 2; lane++) {
                x.row(7, lane, 1);
                for (int i = 0; x.copy(row, i, 7, 0, 1) == 1; i++) {
                    add("ROW " + row + " LANE " + lane + " ITEM " + i, x.fits(0, 7, 1, 2));
                }
            }
        }
        for (int row = 0; row < 7; row++) {
            add("drop(" + row + ")", x.drop(row));
        }
    }
}
