/** The refusals and FINDINGS of promises 2 to 16: what they answer, their order, that they change nothing but status(). */
public final class RefusedTest {
    private static final int NONE = Refusals.NONE, BAD = Refusals.BAD, STATE = Refusals.STATE, FULL = Refusals.FULL;
    private static final int NULL = Refusals.NULL, PLACE = Refusals.PLACE, SIZE = Refusals.SIZE, STORE = Refusals.STORE;
    private static final int MOST = Refusals.MOST;

    private final Due due = new Due("RefusedTest");
    private final Refusals call = new Refusals(due);

    /** That the comparison can see a change: each of these calls makes one. */
    private void changesAreSeen() {
        due.sentence("What is refused, or found, changes nothing but status().");
        Refusals.Call[] changes = {x -> x.row(3, 0, 0), x -> x.row(0, 1, 4), x -> x.row(7, 0, 0), x -> x.set(0, 3, 1),
            x -> x.copy(0, 0, 0, 1, 1), x -> x.drop(2), x -> x.feed('1'), x -> x.rail(), x -> x.lay(0, 0),
            x -> x.lay(0, -3), x -> x.work(), x -> x.gang(4, 1), x -> x.read(2, 31), x -> x.bound(4, 2), x -> x.undo(),
            x -> x.image(0), x -> x.image(1), x -> x.restore(0), x -> x.ask(0, 0), x -> x.ask(1, 1),
            x -> x.tell(0, 0, 3)};
        for (int k = 0; k < changes.length; k++) {
            SlewRails x = Refusals.used();
            changes[k].on(x);
            due.holds("change " + k + " is seen", !Remains.of(x).equals(Remains.of(Refusals.used())));
        }
        due.is("status() ahead, no RAIL", Refusals.bare().status(), 5);
        due.is("status() ahead", Refusals.used().status(), 5);
        due.is("ACTS ahead", Refusals.used().count(4), 5);
        due.is("ACTS ahead, fresh", Refusals.fresh().count(4), 0);
        due.is("bytes ahead, full", Refusals.full().count(5), 120);
    }

    /** Calls that more than one refusal fits. */
    private void order() {
        due.sentence("Refusals are answers, the first of these that fits, but as told: BAD (a number is not as told; there is "
            + "no such thing), STATE (as told), FULL (as told), then FINDINGS, of several the first in time:");
        call.used("lay(3, 4), BAD ahead of STATE", x -> x.lay(3, 4), BAD);
        call.bare("image(2), BAD ahead of STATE", x -> x.image(2), BAD);
        call.bare("restore(2), BAD ahead of STATE", x -> x.restore(2), BAD);
        call.bare("line(5), STATE ahead of BAD, as told", x -> x.line(5), STATE);
        call.bare("best(3), STATE ahead of BAD, as told", x -> x.best(3), STATE);
        call.bare("wrong(2), STATE ahead of BAD, as told", x -> x.wrong(2), STATE);
        call.bare("chance(100, 11, 2), STATE ahead of BAD, as told", x -> x.chance(100, 11, 2), STATE);
        call.bare("drawn(61, 0, 2), STATE ahead of BAD, as told", x -> x.drawn(61, 0, 2), STATE);
        call.full("feed(256), BAD ahead of FULL", x -> x.feed(256), BAD);
        call.used("row(8, 3, -1), BAD ahead of SIZE", x -> x.row(8, 3, -1), BAD);
        call.used("set(8, -1, 0), BAD ahead of PLACE", x -> x.set(8, -1, 0), BAD);
        call.used("set(3, -1, 0), NULL ahead of PLACE", x -> x.set(3, -1, 0), NULL);
        call.used("copy(8, -1, 3, -1, -1), BAD ahead of all", x -> x.copy(8, -1, 3, -1, -1), BAD);
        call.used("copy(0, -1, 3, -1, -1), NULL ahead of PLACE", x -> x.copy(0, -1, 3, -1, -1), NULL);
        call.used("copy(0, -1, 1, -1, -1), STORE ahead of PLACE", x -> x.copy(0, -1, 1, -1, -1), STORE);
        call.used("fits(0, 3, 6, 3), BAD ahead of NULL", x -> x.fits(0, 3, 6, 3), BAD);
        call.used("tell(5, 3, -1), BAD ahead of NULL", x -> x.tell(5, 3, -1), BAD);
        call.used("tell(0, 3, -1), NULL ahead of PLACE", x -> x.tell(0, 3, -1), NULL);
        call.used("as(5, 3), BAD ahead of KIND", x -> x.as(5, 3), BAD);
    }

    private void row() {
        due.sentence("A ROW of a LANE with n ITEMS, in place of what is there: n. BAD: ROW, LANE, n above 40; SIZE.");
        for (int far : Refusals.FAR) {
            call.used("row(" + far + ", 0, 1)", x -> x.row(far, 0, 1), BAD);
            call.used("row(0, " + far + ", 1)", x -> x.row(0, far, 1), BAD);
            call.used("row(0, 0, " + far + ")", x -> x.row(0, 0, far), far < 0 ? SIZE : BAD);
        }
        call.used("row(-1, 0, 1)", x -> x.row(-1, 0, 1), BAD);
        call.used("row(8, 0, 1)", x -> x.row(8, 0, 1), BAD);
        call.used("row(0, -1, 1)", x -> x.row(0, -1, 1), BAD);
        call.used("row(0, 3, 1)", x -> x.row(0, 3, 1), BAD);
        call.used("row(0, 0, 41)", x -> x.row(0, 0, 41), BAD);
        call.used("row(3, 2, 41), a missing one", x -> x.row(3, 2, 41), BAD);
        call.used("row(0, 0, -1)", x -> x.row(0, 0, -1), SIZE);
        call.used("row(3, 2, -1), a missing one", x -> x.row(3, 2, -1), SIZE);
        call.used("row(-1, 0, -1), BAD ahead of SIZE", x -> x.row(-1, 0, -1), BAD);
        call.used("row(8, 0, -1), BAD ahead of SIZE", x -> x.row(8, 0, -1), BAD);
        call.used("row(0, -1, -1), BAD ahead of SIZE", x -> x.row(0, -1, -1), BAD);
        call.used("row(0, 3, -1), BAD ahead of SIZE", x -> x.row(0, 3, -1), BAD);
        call.bare("row(0, 0, -1)", x -> x.row(0, 0, -1), SIZE);
        call.bare("row(0, 0, 41)", x -> x.row(0, 0, 41), BAD);
    }

    private void set() {
        due.sentence("ITEM i becomes v, its lowest bits, as many as the LANE has: what it is then. BAD: ROW; NULL; PLACE.");
        for (int far : Refusals.FAR) {
            call.used("set(" + far + ", 0, 1)", x -> x.set(far, 0, 1), BAD);
            call.used("set(0, " + far + ", 1)", x -> x.set(0, far, 1), PLACE);
        }
        call.used("set(-1, 0, 1)", x -> x.set(-1, 0, 1), BAD);
        call.used("set(8, 0, 1)", x -> x.set(8, 0, 1), BAD);
        call.used("set(8, -1, 1), BAD ahead of PLACE", x -> x.set(8, -1, 1), BAD);
        call.used("set(3, 0, 1)", x -> x.set(3, 0, 1), NULL);
        call.used("set(7, 0, 1)", x -> x.set(7, 0, 1), NULL);
        call.used("set(3, -1, 1), NULL ahead of PLACE", x -> x.set(3, -1, 1), NULL);
        call.used("set(0, -1, 1)", x -> x.set(0, -1, 1), PLACE);
        call.used("set(0, 4, 1)", x -> x.set(0, 4, 1), PLACE);
        call.used("set(1, 3, 1)", x -> x.set(1, 3, 1), PLACE);
        call.used("set(2, 0, 1), an empty one", x -> x.set(2, 0, 1), PLACE);
        call.bare("set(0, 4, 1)", x -> x.set(0, 4, 1), PLACE);
    }

    private void drop() {
        due.sentence("A ROW is missing from now on: how many ITEMS it had. BAD; NULL.");
        for (int far : Refusals.FAR) {
            call.used("drop(" + far + ")", x -> x.drop(far), BAD);
        }
        call.used("drop(-1)", x -> x.drop(-1), BAD);
        call.used("drop(8)", x -> x.drop(8), BAD);
        call.used("drop(3)", x -> x.drop(3), NULL);
        call.used("drop(7)", x -> x.drop(7), NULL);
        call.bare("drop(3)", x -> x.drop(3), NULL);
    }

    private void copy() {
        due.sentence("n ITEMS of a from i on come to b from j on, as they were ahead: n. BAD: ROWS; NULL; STORE; "
            + "PLACE (i, j, n below 0, or beyond an end).");
        for (int far : Refusals.FAR) {
            call.used("copy(" + far + ", 0, 0, 0, 1)", x -> x.copy(far, 0, 0, 0, 1), BAD);
            call.used("copy(0, 0, " + far + ", 0, 1)", x -> x.copy(0, 0, far, 0, 1), BAD);
        }
        call.used("copy(-1, 0, 0, 0, 1)", x -> x.copy(-1, 0, 0, 0, 1), BAD);
        call.used("copy(8, 0, 0, 0, 1)", x -> x.copy(8, 0, 0, 0, 1), BAD);
        call.used("copy(0, 0, -1, 0, 1)", x -> x.copy(0, 0, -1, 0, 1), BAD);
        call.used("copy(0, 0, 8, 0, 1)", x -> x.copy(0, 0, 8, 0, 1), BAD);
        call.used("copy(3, 0, 8, 0, 1), BAD ahead of NULL", x -> x.copy(3, 0, 8, 0, 1), BAD);
        call.used("copy(8, 0, 3, 0, 1), BAD ahead of NULL", x -> x.copy(8, 0, 3, 0, 1), BAD);
        call.used("copy(8, -1, 0, 0, 1), BAD ahead of PLACE", x -> x.copy(8, -1, 0, 0, 1), BAD);
        call.used("copy(3, 0, 0, 0, 1)", x -> x.copy(3, 0, 0, 0, 1), NULL);
        call.used("copy(0, 0, 3, 0, 1)", x -> x.copy(0, 0, 3, 0, 1), NULL);
        call.used("copy(3, 0, 3, 0, 0), of none", x -> x.copy(3, 0, 3, 0, 0), NULL);
        call.used("copy(3, -1, 0, -1, -1), NULL ahead of PLACE", x -> x.copy(3, -1, 0, -1, -1), NULL);
        call.used("copy(0, -1, 3, -1, -1), NULL ahead of PLACE", x -> x.copy(0, -1, 3, -1, -1), NULL);
        call.used("copy(0, 0, 1, 0, 1)", x -> x.copy(0, 0, 1, 0, 1), STORE);
        call.used("copy(1, 0, 0, 0, 1)", x -> x.copy(1, 0, 0, 0, 1), STORE);
        call.used("copy(0, 0, 1, 0, 0), of none", x -> x.copy(0, 0, 1, 0, 0), STORE);
        call.used("copy(0, -1, 1, 0, 1), STORE ahead of PLACE", x -> x.copy(0, -1, 1, 0, 1), STORE);
        call.used("copy(0, 0, 2, 0, 1), STORE ahead of PLACE", x -> x.copy(0, 0, 2, 0, 1), STORE);
        call.used("copy(0, 0, 1, 0, -1), STORE ahead of PLACE", x -> x.copy(0, 0, 1, 0, -1), STORE);
    }

    private void copyPlaces() {
        due.sentence("PLACE (i, j, n below 0, or beyond an end).");
        for (int far : Refusals.FAR) {
            call.used("copy(0, " + far + ", 0, 1, 1)", x -> x.copy(0, far, 0, 1, 1), PLACE);
            call.used("copy(0, 0, 0, " + far + ", 1)", x -> x.copy(0, 0, 0, far, 1), PLACE);
            call.used("copy(0, 0, 0, 1, " + far + ")", x -> x.copy(0, 0, 0, 1, far), PLACE);
            call.used("copy(0, 1, 0, 2, " + far + "), a sum that wraps", x -> x.copy(0, 1, 0, 2, far), PLACE);
            call.used("copy(0, " + far + ", 0, 0, MOST), a sum that wraps", x -> x.copy(0, far, 0, 0, MOST), PLACE);
            call.used("copy(0, 0, 0, " + far + ", MOST), a sum that wraps", x -> x.copy(0, 0, 0, far, MOST), PLACE);
            call.used("copy(0, F, 0, F, F), F " + far, x -> x.copy(0, far, 0, far, far), PLACE);
        }
        call.used("copy(0, -1, 0, 1, 1)", x -> x.copy(0, -1, 0, 1, 1), PLACE);
        call.used("copy(0, 0, 0, -1, 1)", x -> x.copy(0, 0, 0, -1, 1), PLACE);
        call.used("copy(0, 1, 0, 0, -1)", x -> x.copy(0, 1, 0, 0, -1), PLACE);
        call.used("copy(0, 4, 0, 4, -1), back from the end", x -> x.copy(0, 4, 0, 4, -1), PLACE);
        call.used("copy(0, -1, 0, 1, 0), of none", x -> x.copy(0, -1, 0, 1, 0), PLACE);
        call.used("copy(0, 1, 0, -1, 0), of none", x -> x.copy(0, 1, 0, -1, 0), PLACE);
        call.used("copy(0, 5, 0, 0, 0), of none", x -> x.copy(0, 5, 0, 0, 0), PLACE);
        call.used("copy(0, 0, 0, 5, 0), of none", x -> x.copy(0, 0, 0, 5, 0), PLACE);
        call.used("copy(0, 4, 0, 0, 1)", x -> x.copy(0, 4, 0, 0, 1), PLACE);
        call.used("copy(0, 0, 0, 4, 1)", x -> x.copy(0, 0, 0, 4, 1), PLACE);
        call.used("copy(0, 1, 0, 0, 4), one too many of a", x -> x.copy(0, 1, 0, 0, 4), PLACE);
        call.used("copy(0, 0, 0, 1, 4), one too many for b", x -> x.copy(0, 0, 0, 1, 4), PLACE);
        call.used("copy(0, 0, 0, 0, 5)", x -> x.copy(0, 0, 0, 0, 5), PLACE);
        call.used("copy(2, 0, 2, 0, 1), an empty one", x -> x.copy(2, 0, 2, 0, 1), PLACE);
        call.used("copy(2, 1, 2, 0, 0), an empty one", x -> x.copy(2, 1, 2, 0, 0), PLACE);
    }

    private void feed() {
        due.sentence("A byte (0 to 255) comes behind the tape: how many it has. BAD; FULL.");
        for (int far : Refusals.FAR) {
            call.used("feed(" + far + ")", x -> x.feed(far), BAD);
            call.full("feed(" + far + ")", x -> x.feed(far), BAD);
        }
        call.used("feed(-1)", x -> x.feed(-1), BAD);
        call.used("feed(256)", x -> x.feed(256), BAD);
        call.bare("feed(-1)", x -> x.feed(-1), BAD);
        call.bare("feed(256)", x -> x.feed(256), BAD);
        call.full("feed(0)", x -> x.feed(0), FULL);
        call.full("feed('p')", x -> x.feed('p'), FULL);
        call.full("feed(255)", x -> x.feed(255), FULL);
        call.full("feed(-1), BAD ahead of FULL", x -> x.feed(-1), BAD);
        call.full("feed(256), BAD ahead of FULL", x -> x.feed(256), BAD);
    }

    private void lay() {
        due.sentence("A SLEW is laid (-3 to 3): what it was. BAD; STATE: it is beyond REACH.");
        for (int far : Refusals.FAR) {
            call.used("lay(" + far + ", 0)", x -> x.lay(far, 0), BAD);
            call.used("lay(0, " + far + ")", x -> x.lay(0, far), BAD);
            call.used("lay(3, " + far + "), BAD ahead of STATE", x -> x.lay(3, far), BAD);
        }
        call.used("lay(-1, 0)", x -> x.lay(-1, 0), BAD);
        call.used("lay(5, 0)", x -> x.lay(5, 0), BAD);
        call.used("lay(0, -4)", x -> x.lay(0, -4), BAD);
        call.used("lay(0, 4)", x -> x.lay(0, 4), BAD);
        call.used("lay(3, 4), BAD ahead of STATE", x -> x.lay(3, 4), BAD);
        call.used("lay(4, -4), BAD ahead of STATE", x -> x.lay(4, -4), BAD);
        call.used("lay(1, 3), a soft one", x -> x.lay(1, 3), STATE);
        call.used("lay(1, -3), a soft one", x -> x.lay(1, -3), STATE);
        call.used("lay(2, 3), a joint with BOUND 2", x -> x.lay(2, 3), STATE);
        call.used("lay(2, -3), a joint with BOUND 2", x -> x.lay(2, -3), STATE);
        call.used("lay(3, 1), a bridge", x -> x.lay(3, 1), STATE);
        call.used("lay(3, -1), a bridge", x -> x.lay(3, -1), STATE);
        call.used("lay(4, 1), an end", x -> x.lay(4, 1), STATE);
        call.used("lay(4, -1), an end", x -> x.lay(4, -1), STATE);
        call.bare("lay(0, 0)", x -> x.lay(0, 0), BAD);
        call.bare("lay(0, 1)", x -> x.lay(0, 1), BAD);
    }

    private void workAndGang() {
        due.sentence("All are WORKED IN: how much was moved (SLEWS taken above 0, together). STATE: no RAIL.");
        call.bare("work()", SlewRails::work, STATE);
        due.sentence("A GANG of n (1 to 12): WORST then. BAD.");
        for (int far : Refusals.FAR) {
            call.used("gang(" + far + ", 1)", x -> x.gang(far, 1), BAD);
            call.used("gang(0, " + far + ")", x -> x.gang(0, far), BAD);
            call.used("gang(4, " + far + ")", x -> x.gang(4, far), BAD);
        }
        call.used("gang(-1, 2)", x -> x.gang(-1, 2), BAD);
        call.used("gang(5, 1)", x -> x.gang(5, 1), BAD);
        call.used("gang(0, 0)", x -> x.gang(0, 0), BAD);
        call.used("gang(0, -1)", x -> x.gang(0, -1), BAD);
        call.used("gang(0, 13)", x -> x.gang(0, 13), BAD);
        call.bare("gang(0, 1)", x -> x.gang(0, 1), BAD);
    }

    private void readAndBound() {
        due.sentence("A VERSINE is read anew (0 to 60): what it was. BAD.");
        for (int far : Refusals.FAR) {
            call.used("read(" + far + ", 1)", x -> x.read(far, 1), BAD);
            call.used("read(0, " + far + ")", x -> x.read(0, far), BAD);
        }
        call.used("read(-1, 1)", x -> x.read(-1, 1), BAD);
        call.used("read(5, 1)", x -> x.read(5, 1), BAD);
        call.used("read(0, -1)", x -> x.read(0, -1), BAD);
        call.used("read(4, 61)", x -> x.read(4, 61), BAD);
        call.bare("read(0, 0)", x -> x.read(0, 0), BAD);
        due.sentence("A BOUND is another (0 to 3); a SLEW that is beyond REACH then becomes the nearest within: "
            + "what BOUND was. BAD.");
        for (int far : Refusals.FAR) {
            call.used("bound(" + far + ", 1)", x -> x.bound(far, 1), BAD);
            call.used("bound(0, " + far + ")", x -> x.bound(0, far), BAD);
        }
        call.used("bound(-1, 1)", x -> x.bound(-1, 1), BAD);
        call.used("bound(5, 1)", x -> x.bound(5, 1), BAD);
        call.used("bound(0, -1)", x -> x.bound(0, -1), BAD);
        call.used("bound(0, 4)", x -> x.bound(0, 4), BAD);
        call.bare("bound(0, 0)", x -> x.bound(0, 0), BAD);
    }

    private void undo() {
        due.sentence("The latest ACT is undone: how many can be undone yet. STATE: none.");
        call.bare("undo()", SlewRails::undo, STATE);
        call.in(Refusals::fresh, "undo() without ACTS", SlewRails::undo, STATE);
    }

    private void pegAndLine() {
        due.sentence("Of a PEG: 0 VERSINE, 1 BOUND, 2 REACH, 3 SLEW, 4 NOW, 5 STEP (NONE of the last one), 6 WISH, "
            + "7 SECOND SUM. BAD.");
        for (int far : Refusals.FAR) {
            call.used("peg(" + far + ", 0)", x -> x.peg(far, 0), BAD);
            call.used("peg(0, " + far + ")", x -> x.peg(0, far), BAD);
        }
        call.used("peg(-1, 0)", x -> x.peg(-1, 0), BAD);
        call.used("peg(5, 0)", x -> x.peg(5, 0), BAD);
        call.used("peg(5, 5)", x -> x.peg(5, 5), BAD);
        call.used("peg(0, -1)", x -> x.peg(0, -1), BAD);
        call.used("peg(0, 8)", x -> x.peg(0, 8), BAD);
        call.used("peg(4, 5)", x -> x.peg(4, 5), NONE);
        call.bare("peg(0, 0)", x -> x.peg(0, 0), BAD);
        due.sentence("4 whether it CLOSES (1, 0). BAD; STATE: no RAIL (ahead of BAD).");
        for (int far : Refusals.FAR) {
            call.used("line(" + far + ")", x -> x.line(far), BAD);
            call.bare("line(" + far + ")", x -> x.line(far), STATE);
        }
        call.used("line(-1)", x -> x.line(-1), BAD);
        call.used("line(5)", x -> x.line(5), BAD);
        for (int what = -1; what <= 5; what++) {
            int asked = what;
            call.bare("line(" + what + ")", x -> x.line(asked), STATE);
        }
    }

    public static void main(String[] args) {
        RefusedTest test = new RefusedTest();
        test.changesAreSeen();
        test.order();
        test.row();
        test.set();
        test.drop();
        test.copy();
        test.copyPlaces();
        test.feed();
        test.lay();
        test.workAndGang();
        test.readAndBound();
        test.undo();
        test.pegAndLine();
        test.due.end();
    }
}
