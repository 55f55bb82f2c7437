/** The edges of IMAGES, KINDS, ASKS, counts and status(): section 4 of the document's terms, and promises 24 to 31. */
public final class AskEdgesTest {
    private static final int NONE = SlewRails.NONE, BAD = SlewRails.BAD, STATE = SlewRails.STATE, FULL = SlewRails.FULL;
    private static final int KIND = -1000013;
    private static final int LEAST = Integer.MIN_VALUE, MOST = Integer.MAX_VALUE;
    private static final String ALL = "p10,3;s20,3;j30,2;b5,3;e7,1;";

    private static void newObject(Due due) {
        due.sentence("`SlewRails()`: No RAIL.");
        SlewRails x = new SlewRails();
        for (int what = 0; what <= 5; what++) {
            due.is("count(" + what + ")", x.count(what), 0);
        }
        due.is("line(0)", x.line(0), STATE);
        due.is("peg(0, 0)", x.peg(0, 0), BAD);
        due.is("image(0)", x.image(0), STATE);
        due.is("restore(0)", x.restore(0), STATE);
        due.is("restore(1)", x.restore(1), STATE);
        due.is("trace(0)", x.trace(0), NONE);
        due.is("fault()", x.fault(), 0);
        due.is("status()", x.status(), 0);
    }

    private static void images(Due due) {
        due.sentence("An IMAGE (0, 1) is kept of the RAIL: 1.");
        for (int k = -3; k <= 4; k++) {
            SlewRails x = Due.of(ALL);
            boolean isOne = k == 0 || k == 1;
            due.is("image(" + k + ")", x.image(k), isOne ? 1 : BAD);
            due.is("restore(0)", x.restore(0), k == 0 ? 1 : STATE);
            due.is("restore(1)", x.restore(1), k == 1 ? 1 : STATE);
            due.is("restore(" + k + ")", x.restore(k), isOne ? 1 : BAD);
        }
        SlewRails x = Due.of(ALL);
        x.lay(0, 1);
        x.image(0);
        x.lay(0, 2);
        x.image(1);
        x.lay(0, 3);
        x.restore(0);
        due.is("IMAGE 0", x.peg(0, 3), 1);
        x.restore(1);
        due.is("IMAGE 1", x.peg(0, 3), 2);
        x.image(0);
        x.lay(0, -3);
        x.restore(0);
        due.is("IMAGE 0, kept anew", x.peg(0, 3), 2);
        x.lay(0, -1);
        x.work();
        x.restore(0);
        due.is("what is done behind it is none of its", x.peg(0, 3), 2);
    }

    private static void restored(Due due) {
        due.sentence("The RAIL is as an IMAGE kept it (no ACT can be undone then): 1.");
        SlewRails x = Due.of(ALL);
        x.lay(0, -3);
        x.lay(1, 2);
        x.bound(2, 0);
        x.image(1);
        Due.read(x, "p60,3;".repeat(12));
        for (int p = 0; p < 12; p++) {
            x.lay(p, 3);
            x.read(p, p);
        }
        due.is("ACTS", x.count(4), 24);
        x.image(0);
        due.is("an IMAGE leaves ACTS", x.count(4), 24);
        due.is("restore(1), fewer PEGS", x.restore(1), 1);
        due.is("ACTS", x.count(4), 0);
        due.is("undo()", x.undo(), STATE);
        due.is("PEGS", x.count(1), 5);
        due.is("PEG 5", x.peg(5, 0), BAD);
        due.are("VERSINES", Due.pegs(x, 0), 10, 20, 30, 5, 7);
        due.are("BOUNDS", Due.pegs(x, 1), 3, 3, 0, 3, 1);
        due.are("REACH", Due.pegs(x, 2), 3, 2, 0, 0, 0);
        due.are("SLEWS", Due.pegs(x, 3), -3, 2, 0, 0, 0);
        due.are("NOW", Due.pegs(x, 4), 2, 27, 28, 5, 7);
        for (int p = 0; p < 5; p++) {
            due.is("KIND", x.kind(p), p + 1);
        }
        due.is("restore(0), more PEGS", x.restore(0), 1);
        due.is("PEGS", x.count(1), 12);
        due.is("SLEW", x.peg(11, 3), 3);
        due.is("VERSINE", x.peg(11, 0), 11);
        due.is("undo()", x.undo(), STATE);
        Due.read(x, "x");
        due.is("a FAULT leaves IMAGES", x.restore(1), 1);
        Due.read(x, "p1,1;p2,1;p3,1;");
        due.is("another RAIL leaves IMAGES", x.restore(1), 1);
        due.is("PEGS", x.count(1), 5);
        due.is("one time more", x.restore(1), 1);
    }

    private static void kinds(Due due) {
        due.sentence("KINDS of PEGS: 0 PEG; 1 PLAIN, a PEG; 2 SOFT, a PLAIN; 3 JOINT, a PLAIN; 4 BRIDGE, a PEG; 5 END, a "
            + "BRIDGE.");
        String sorts = "psjbe";
        int[][] is = {{0, 1}, {0, 1, 2}, {0, 1, 3}, {0, 4}, {0, 4, 5}};
        for (int sort = 0; sort < 5; sort++) {
            String peg = sorts.charAt(sort) + "9,3;";
            for (int p : new int[] {0, 2, 11}) {
                SlewRails x = Due.of("p1,1;".repeat(p) + peg + "b1,1;".repeat(11 - p));
                due.is("kind(" + p + ") of " + peg, x.kind(p), sort + 1);
                for (int kind = -2; kind <= 7; kind++) {
                    int told = KIND;
                    for (int k : is[sort]) {
                        told = k == kind ? p : told;
                    }
                    boolean isKind = kind >= 0 && kind <= 5;
                    x.row(0, 0, -1);
                    due.is("as(" + p + ", " + kind + ") of " + peg, x.as(p, kind), isKind ? told : BAD);
                    due.is("status()", x.status(), !isKind ? 4 : told == KIND ? 3 : 0);
                }
                due.is("kind(12)", x.kind(12), BAD);
                due.is("kind(-1)", x.kind(-1), BAD);
            }
        }
    }

    /** NOW is 2 27 28 5 7, SLEWS are -3 2 0 0 0. */
    private static void traces(Due due) {
        due.sentence("each of which leaves its number in THE TRACE as it begins (the first 16): 0 SIZE: 10 lent to all PEGS: "
            + "NOW. 11 of PLAIN ones: what 10 gives, and MARK. 12 of SOFT ones: 0 less what 11 gives. 13 of BRIDGES: what "
            + "10 gives, less 100. 14 of ENDS: what 13 gives, twice. 1 MARK: 20 lent to all PEGS: the number. 21 of PLAIN "
            + "ones: what 20 gives, and SLEW. 22 of JOINTS: what 21 gives, less 1000. 23 of BRIDGES: what 20 gives, less "
            + "SIZE. 24 of SOFT ones: what 21 gives, twice.");
        long[][] told = {{11, 10, 21, 20}, {21, 20}, {12, 11, 10, 24, 21, 20}, {24, 21, 20}, {11, 10, 22, 21, 20},
            {22, 21, 20}, {13, 10}, {23, 20, 13, 10}, {14, 13, 10}, {23, 20, 14, 13, 10}};
        long[] answers = {2 - 3, -3, -(27 + 6), 6, 28 + 2 - 1000, 2 - 1000, 5 - 100, 3 - (5 - 100), 2 * (7 - 100),
            4 - 2 * (7 - 100)};
        SlewRails x = Due.of(ALL);
        x.lay(1, 2);
        x.lay(0, -3);
        for (int k = 0; k < 10; k++) {
            due.is("ask(" + k / 2 + ", " + k % 2 + ")", x.ask(k / 2, k % 2), answers[k]);
            for (int i = -1; i <= 17; i++) {
                boolean isOne = i >= 0 && i < told[k].length;
                due.is("trace(" + i + ")", x.trace(i), isOne ? told[k][i] : NONE);
            }
        }
        due.is("trace(LEAST)", x.trace(LEAST), NONE);
        due.is("trace(MOST)", x.trace(MOST), NONE);
    }

    private static void asks(Due due) {
        due.sentence("An ASK (0, 1) of a PEG. BAD. THE TRACE is empty ahead of it.");
        SlewRails x = Due.of(ALL);
        for (int what = -2; what <= 3; what++) {
            for (int peg = -1; peg <= 5; peg++) {
                x.ask(3, 1);
                boolean isOne = peg >= 0 && peg <= 4 && what >= 0 && what <= 1;
                due.holds("ask(" + peg + ", " + what + ")", isOne == (x.ask(peg, what) != BAD));
                if (!isOne) {
                    due.are("THE TRACE of a refused one", Due.trace(x), 23, 20, 13, 10);
                }
            }
        }
        x.ask(1, 0);
        x.ask(0, 1);
        due.are("none of the one before", Due.trace(x), 21, 20);
    }

    /** The same PEG is asked anew: what stands within an ask is that of the PEG's own KIND. */
    private static void asksFar(Due due) {
        due.sentence("(Of an ask the BODY told for the KIND begins, else that of the nearest KIND that it is, too, else the "
            + "one that is lent; SIZE, MARK within others are asked of the same PEG anew.)");
        SlewRails x = Due.of("e0,0;" + "p0,3;".repeat(10) + "e0,0;");
        due.is("MARK of the first", x.ask(0, 1), 0 - 2 * (0 - 100));
        due.is("MARK of the last", x.ask(11, 1), 11 - 2 * (0 - 100));
        due.is("SIZE of PEG 10", x.ask(10, 0), 10);
        x.lay(10, -3);
        due.is("SIZE of PEG 10, slewed", x.ask(10, 0), -6 + 10 - 3);
        due.is("SIZE of the last, by NOW", x.ask(11, 0), 2 * (3 - 100));
    }

    private static void counts(Due due) {
        due.sentence("How many: 0 ROWS, 1 PEGS, 2 PEGS that have a SLEW (not 0), 3 how often all were WORKED IN since the "
            + "RAIL was read (999 at most), 4 ACTS that can be undone, 5 bytes on the tape. BAD.");
        SlewRails x = Due.of("p9,3;".repeat(12));
        for (int what = -3; what <= 9; what++) {
            due.is("count(" + what + ")", x.count(what), what == 1 ? 12 : what >= 0 && what <= 5 ? 0 : BAD);
        }
        for (int p = 0; p < 12; p++) {
            x.lay(p, p % 2 == 0 ? 1 : -1);
            due.is("PEGS that have a SLEW", x.count(2), p + 1);
            due.is("ACTS", x.count(4), p + 1);
        }
        x.lay(3, 0);
        due.is("PEGS that have a SLEW", x.count(2), 11);
        x.work();
        due.is("PEGS that have a SLEW", x.count(2), 0);
        due.is("WORKED IN", x.count(3), 1);
        Due.read(x, "p9,3;".repeat(3));
        due.is("WORKED IN since another was read", x.count(3), 0);
        due.is("PEGS", x.count(1), 3);
        due.is("no RAIL", new SlewRails().count(6), BAD);
    }

    private static void findings(Due due) {
        due.sentence("-1000010 less 1 NULL (a ROW that is missing), 2 PLACE (no such place of a ROW), 3 KIND (a PEG that is "
            + "not that), 4 SIZE (fewer than none), 5 STORE (ROWS of two LANES), 6 OVER (beyond the numbers of an int).");
        SlewRails x = Due.of(ALL);
        x.row(0, 2, 3);
        x.row(1, 1, 3);
        due.is("1", x.set(2, 0, 0), -1000011);
        due.is("status()", x.status(), 1);
        due.is("2", x.set(0, 3, 0), -1000012);
        due.is("status()", x.status(), 2);
        due.is("3", x.as(0, 5), -1000013);
        due.is("status()", x.status(), 3);
        due.is("4", x.row(0, 0, -1), -1000014);
        due.is("status()", x.status(), 4);
        due.is("5", x.copy(0, 0, 1, 0, 1), -1000015);
        due.is("status()", x.status(), 5);
        due.is("6", x.moment(MOST), -1000016);
        due.is("status()", x.status(), 6);
    }

    /** What the 512th call answers is due as what the first one does. */
    private static void manyCalls(Due due) {
        due.sentence("An object is used for at most 512 calls after it has been made; what later calls answer is free.");
        SlewRails x = Due.of("p10,3;s20,3;p30,3;");
        for (int k = 19; k < 511; k++) {
            due.is("call " + (k + 1), k % 2 == 1 ? x.read(1, k % 61) : x.peg(1, 0), k == 19 ? 20 : (k - k % 2 - 1) % 61);
        }
        due.is("call 512", x.undo(), 23);
    }

    /** The document promises 512 calls alone: beyond them what is told here is free, but it does hold. */
    private static void workedOften(Due due) {
        due.sentence("3 how often all were WORKED IN since the RAIL was read (999 at most)");
        SlewRails x = Due.of("p9,3;p9,3;p9,3;");
        for (int k = 0; k < 495; k++) {
            x.work();
        }
        due.is("by the 512th call", x.count(3), 495);
        for (int k = 495; k < 998; k++) {
            x.work();
        }
        due.is("998", x.count(3), 998);
        x.work();
        due.is("999", x.count(3), 999);
        x.work();
        due.is("999 at most", x.count(3), 999);
    }

    /** status() is 4 ahead of each. */
    private static void statusStays(Due due) {
        due.sentence("Of the latest call with a ROW, as(), or moment(), that was not BAD, STATE, FULL: the number of its "
            + "FINDING;");
        SlewRails x = Due.of(ALL);
        x.row(0, 0, -1);
        x.feed('p');
        x.rail();
        Due.read(x, ALL);
        x.fault();
        x.lay(0, 1);
        x.lay(0, 4);
        x.lay(3, 1);
        x.work();
        x.gang(0, 2);
        x.read(0, 9);
        x.bound(0, 2);
        x.undo();
        x.peg(0, 5);
        x.peg(9, 9);
        due.is("behind rails and acts", x.status(), 4);
        x.line(0);
        x.best(0);
        x.wrong(0);
        x.chance(0, 0, 0);
        x.drawn(1, 1, 0);
        x.image(0);
        x.restore(0);
        x.restore(1);
        due.is("behind what is foretold", x.status(), 4);
        x.kind(0);
        x.ask(0, 0);
        x.trace(0);
        x.count(0);
        due.is("behind what is asked", x.status(), 4);
        for (int k = 0; k < 120; k++) {
            x.feed('p');
        }
        due.is("FULL", x.feed('p'), FULL);
        due.is("behind FULL", x.status(), 4);
        SlewRails y = new SlewRails();
        y.row(0, 0, -1);
        due.is("STATE", y.moment(1), STATE);
        due.is("behind STATE", y.status(), 4);
    }

    private static void statusOfEach(Due due) {
        due.sentence("0: it had none, or there was none.");
        due.is("there was none", Due.of(ALL).status(), 0);
        Refusals.Call[] found = {y -> y.set(2, 0, 0), y -> y.set(0, 3, 0), y -> y.as(0, 5), y -> y.row(0, 0, -1),
            y -> y.copy(0, 0, 1, 0, 1), y -> y.moment(MOST)};
        Refusals.Call[] fine = {y -> y.row(3, 0, 0), y -> y.set(0, 2, LEAST), y -> y.copy(0, 0, 0, 1, 2), y -> y.drop(3),
            y -> y.fits(0, 0, 3, 0), y -> y.tell(0, 0, 0), y -> y.as(4, 5), y -> y.moment(1)};
        Refusals.Call[] bad = {y -> y.row(8, 0, 0), y -> y.set(8, 2, 0), y -> y.copy(0, 0, 8, 1, 2), y -> y.drop(8),
            y -> y.fits(0, 0, 6, 0), y -> y.tell(5, 0, 0), y -> y.as(4, 6)};
        for (int finding = 1; finding <= 6; finding++) {
            SlewRails x = Due.of(ALL);
            x.row(0, 2, 3);
            x.row(1, 1, 3);
            due.is("status() at first", x.status(), 0);
            for (int k = 0; k < 8; k++) {
                due.is("FINDING " + finding, found[finding - 1].on(x), -1000010 - finding);
                due.is("status()", x.status(), finding);
                for (Refusals.Call refused : bad) {
                    refused.on(x);
                }
                due.is("status() behind BAD", x.status(), finding);
                fine[k].on(x);
                due.is("status() behind call " + k + " without a FINDING", x.status(), 0);
            }
        }
    }

    public static void main(String[] args) {
        Due due = new Due("AskEdgesTest");
        newObject(due);
        images(due);
        restored(due);
        kinds(due);
        traces(due);
        asks(due);
        asksFar(due);
        counts(due);
        workedOften(due);
        findings(due);
        manyCalls(due);
        statusStays(due);
        statusOfEach(due);
        due.end();
    }
}
