/**
 * The refusals and FINDINGS of promises 17 to 31: what they answer, their order, that they change nothing but status();
 * and that what is FORETOLD changes nothing.
 */
public final class RefusedForetoldTest {
    private static final int NONE = Refusals.NONE, BAD = Refusals.BAD, STATE = Refusals.STATE;
    private static final int NULL = Refusals.NULL, PLACE = Refusals.PLACE, KIND = Refusals.KIND, OVER = Refusals.OVER;
    private static final int MOST = Refusals.MOST, LEAST = Refusals.LEAST;

    private final Due due = new Due("RefusedForetoldTest");
    private final Refusals call = new Refusals(due);

    private void bestAndWrong() {
        due.sentence("BEST: 0 WORST, 1 UNEVEN, 2 how much is moved; 10 and a PEG: its SLEW. BAD; "
            + "STATE: no RAIL (ahead of BAD).");
        for (int far : Refusals.FAR) {
            call.used("best(" + far + ")", x -> x.best(far), BAD);
            call.bare("best(" + far + ")", x -> x.best(far), STATE);
        }
        for (int what : new int[] {-1, 3, 4, 9, 15, 16, 21, 22}) {
            call.used("best(" + what + ")", x -> x.best(what), BAD);
            call.bare("best(" + what + ")", x -> x.best(what), STATE);
        }
        for (int what : new int[] {0, 1, 2, 10, 14}) {
            call.bare("best(" + what + ")", x -> x.best(what), STATE);
        }
        due.sentence("WRONG: which (what = 0), VERSINE (1); NONE. BAD; STATE: no RAIL (ahead of BAD).");
        for (int far : Refusals.FAR) {
            call.used("wrong(" + far + ")", x -> x.wrong(far), BAD);
            call.bare("wrong(" + far + ")", x -> x.wrong(far), STATE);
        }
        call.used("wrong(-1)", x -> x.wrong(-1), BAD);
        call.used("wrong(2)", x -> x.wrong(2), BAD);
        for (int what = -1; what <= 2; what++) {
            int asked = what;
            call.bare("wrong(" + what + ")", x -> x.wrong(asked), STATE);
        }
    }

    private void moment() {
        due.sentence("MOMENT. STATE: no RAIL; OVER.");
        for (int w : new int[] {LEAST, -1, 0, 1, MOST}) {
            call.bare("moment(" + w + ")", x -> x.moment(w), STATE);
        }
        call.used("moment(MOST)", x -> x.moment(MOST), OVER);
        call.used("moment(LEAST)", x -> x.moment(LEAST), OVER);
    }

    private void fits() {
        due.sentence("by NOW, n ITEMS of a ROW from 0 on (n no more than PEGS). BAD: PEG, ROW, n, what; NULL; PLACE.");
        for (int far : Refusals.FAR) {
            call.used("fits(" + far + ", 0, 1, 0)", x -> x.fits(far, 0, 1, 0), BAD);
            call.used("fits(0, " + far + ", 1, 0)", x -> x.fits(0, far, 1, 0), BAD);
            call.used("fits(0, 0, " + far + ", 0)", x -> x.fits(0, 0, far, 0), BAD);
            call.used("fits(0, 0, 1, " + far + ")", x -> x.fits(0, 0, 1, far), BAD);
        }
        call.used("fits(-1, 0, 1, 0)", x -> x.fits(-1, 0, 1, 0), BAD);
        call.used("fits(5, 0, 1, 0)", x -> x.fits(5, 0, 1, 0), BAD);
        call.used("fits(0, -1, 1, 0)", x -> x.fits(0, -1, 1, 0), BAD);
        call.used("fits(0, 8, 1, 0)", x -> x.fits(0, 8, 1, 0), BAD);
        call.used("fits(0, 0, 0, 0)", x -> x.fits(0, 0, 0, 0), BAD);
        call.used("fits(0, 0, -1, 0)", x -> x.fits(0, 0, -1, 0), BAD);
        call.used("fits(0, 0, 6, 0), n above PEGS", x -> x.fits(0, 0, 6, 0), BAD);
        call.used("fits(0, 0, 12, 0), n above PEGS", x -> x.fits(0, 0, 12, 0), BAD);
        call.used("fits(0, 0, 1, -1)", x -> x.fits(0, 0, 1, -1), BAD);
        call.used("fits(0, 0, 1, 3)", x -> x.fits(0, 0, 1, 3), BAD);
        call.used("fits(5, 3, 1, 0), BAD ahead of NULL", x -> x.fits(5, 3, 1, 0), BAD);
        call.used("fits(0, 3, 6, 0), BAD ahead of NULL", x -> x.fits(0, 3, 6, 0), BAD);
        call.used("fits(0, 3, 0, 0), BAD ahead of NULL", x -> x.fits(0, 3, 0, 0), BAD);
        call.used("fits(0, 3, 1, 3), BAD ahead of NULL", x -> x.fits(0, 3, 1, 3), BAD);
        call.used("fits(0, 2, 1, 3), BAD ahead of PLACE", x -> x.fits(0, 2, 1, 3), BAD);
        for (int what = 0; what <= 2; what++) {
            int asked = what;
            call.used("fits(0, 3, 1, " + what + ")", x -> x.fits(0, 3, 1, asked), NULL);
            call.used("fits(0, 0, 5, " + what + "), of 4 ITEMS", x -> x.fits(0, 0, 5, asked), PLACE);
            call.used("fits(4, 1, 4, " + what + "), of 3 ITEMS", x -> x.fits(4, 1, 4, asked), PLACE);
            call.used("fits(0, 2, 1, " + what + "), of none", x -> x.fits(0, 2, 1, asked), PLACE);
            call.bare("fits(0, 0, 1, " + what + ")", x -> x.fits(0, 0, 1, asked), BAD);
        }
        call.bare("fits(0, 3, 1, 0), BAD ahead of NULL", x -> x.fits(0, 3, 1, 0), BAD);
    }

    private void tell() {
        due.sentence("BAD: PEG, ROW; NULL; PLACE (i below 0, beyond the ROW; its end may be).");
        for (int far : Refusals.FAR) {
            call.used("tell(" + far + ", 0, 0)", x -> x.tell(far, 0, 0), BAD);
            call.used("tell(0, " + far + ", 0)", x -> x.tell(0, far, 0), BAD);
            call.used("tell(0, 0, " + far + ")", x -> x.tell(0, 0, far), PLACE);
            call.used("tell(0, 3, " + far + "), NULL ahead of PLACE", x -> x.tell(0, 3, far), NULL);
        }
        call.used("tell(-1, 0, 0)", x -> x.tell(-1, 0, 0), BAD);
        call.used("tell(5, 0, 0)", x -> x.tell(5, 0, 0), BAD);
        call.used("tell(0, -1, 0)", x -> x.tell(0, -1, 0), BAD);
        call.used("tell(0, 8, 0)", x -> x.tell(0, 8, 0), BAD);
        call.used("tell(5, 3, 0), BAD ahead of NULL", x -> x.tell(5, 3, 0), BAD);
        call.used("tell(5, 0, -1), BAD ahead of PLACE", x -> x.tell(5, 0, -1), BAD);
        call.used("tell(0, 3, 0)", x -> x.tell(0, 3, 0), NULL);
        call.used("tell(0, 3, -1), NULL ahead of PLACE", x -> x.tell(0, 3, -1), NULL);
        call.used("tell(0, 0, -1)", x -> x.tell(0, 0, -1), PLACE);
        call.used("tell(0, 0, 5)", x -> x.tell(0, 0, 5), PLACE);
        call.used("tell(4, 1, 4)", x -> x.tell(4, 1, 4), PLACE);
        call.used("tell(0, 2, 1), an empty one", x -> x.tell(0, 2, 1), PLACE);
        call.behind(Refusals::used, "tell(0, 0, 4), its end", x -> x.tell(0, 0, 4), 0, 0);
        call.behind(Refusals::used, "tell(0, 2, 0), the end of an empty one", x -> x.tell(0, 2, 0), 0, 0);
        call.bare("tell(0, 0, 0)", x -> x.tell(0, 0, 0), BAD);
        call.bare("tell(0, 3, 0), BAD ahead of NULL", x -> x.tell(0, 3, 0), BAD);
    }

    private void chance() {
        due.sentence("CHANCE (c 0 to 10): above (what = 0), below (1). BAD; STATE: no RAIL (ahead of BAD).");
        for (int far : Refusals.FAR) {
            call.used("chance(" + far + ", 0, 0)", x -> x.chance(far, 0, 0), BAD);
            call.used("chance(0, " + far + ", 0)", x -> x.chance(0, far, 0), BAD);
            call.used("chance(0, 0, " + far + ")", x -> x.chance(0, 0, far), BAD);
            call.bare("chance(F, F, F), F " + far, x -> x.chance(far, far, far), STATE);
        }
        call.used("chance(-1, 0, 0)", x -> x.chance(-1, 0, 0), BAD);
        call.used("chance(100, 0, 0)", x -> x.chance(100, 0, 0), BAD);
        call.used("chance(0, -1, 0)", x -> x.chance(0, -1, 0), BAD);
        call.used("chance(0, 11, 0)", x -> x.chance(0, 11, 0), BAD);
        call.used("chance(0, 0, -1)", x -> x.chance(0, 0, -1), BAD);
        call.used("chance(0, 0, 2)", x -> x.chance(0, 0, 2), BAD);
        call.bare("chance(0, 0, 0)", x -> x.chance(0, 0, 0), STATE);
        call.bare("chance(-1, 0, 0)", x -> x.chance(-1, 0, 0), STATE);
        call.bare("chance(0, 11, 0)", x -> x.chance(0, 11, 0), STATE);
        call.bare("chance(0, 0, 2)", x -> x.chance(0, 0, 2), STATE);
    }

    private void drawn() {
        due.sentence("YEARS by a SEED (1 to 999999): WORST (what = 0), how often (1). BAD; STATE: no RAIL (ahead of BAD).");
        for (int far : Refusals.FAR) {
            call.used("drawn(" + far + ", 1, 0)", x -> x.drawn(far, 1, 0), BAD);
            call.used("drawn(1, " + far + ", 0)", x -> x.drawn(1, far, 0), BAD);
            call.used("drawn(1, 1, " + far + ")", x -> x.drawn(1, 1, far), BAD);
            call.bare("drawn(F, F, F), F " + far, x -> x.drawn(far, far, far), STATE);
        }
        call.used("drawn(-1, 1, 0)", x -> x.drawn(-1, 1, 0), BAD);
        call.used("drawn(61, 1, 0)", x -> x.drawn(61, 1, 0), BAD);
        call.used("drawn(0, 0, 0)", x -> x.drawn(0, 0, 0), BAD);
        call.used("drawn(0, -1, 0)", x -> x.drawn(0, -1, 0), BAD);
        call.used("drawn(0, 1000000, 0)", x -> x.drawn(0, 1000000, 0), BAD);
        call.used("drawn(0, 1, -1)", x -> x.drawn(0, 1, -1), BAD);
        call.used("drawn(0, 1, 2)", x -> x.drawn(0, 1, 2), BAD);
        call.bare("drawn(0, 1, 0)", x -> x.drawn(0, 1, 0), STATE);
        call.bare("drawn(61, 1, 0)", x -> x.drawn(61, 1, 0), STATE);
        call.bare("drawn(0, 0, 0)", x -> x.drawn(0, 0, 0), STATE);
        call.bare("drawn(0, 1, 2)", x -> x.drawn(0, 1, 2), STATE);
    }

    private void images() {
        due.sentence("An IMAGE (0, 1) is kept of the RAIL: 1. BAD; STATE: no RAIL.");
        for (int far : Refusals.FAR) {
            call.used("image(" + far + ")", x -> x.image(far), BAD);
            call.bare("image(" + far + "), BAD ahead of STATE", x -> x.image(far), BAD);
        }
        for (int k : new int[] {-1, 2}) {
            call.used("image(" + k + ")", x -> x.image(k), BAD);
            call.bare("image(" + k + "), BAD ahead of STATE", x -> x.image(k), BAD);
        }
        call.bare("image(0)", x -> x.image(0), STATE);
        call.bare("image(1)", x -> x.image(1), STATE);
        due.sentence("The RAIL is as an IMAGE kept it (no ACT can be undone then): 1. BAD; STATE: none was kept.");
        for (int far : Refusals.FAR) {
            call.used("restore(" + far + ")", x -> x.restore(far), BAD);
            call.bare("restore(" + far + "), BAD ahead of STATE", x -> x.restore(far), BAD);
        }
        for (int k : new int[] {-1, 2}) {
            call.used("restore(" + k + ")", x -> x.restore(k), BAD);
            call.bare("restore(" + k + "), BAD ahead of STATE", x -> x.restore(k), BAD);
        }
        call.used("restore(1), none was kept", x -> x.restore(1), STATE);
        call.bare("restore(0), none was kept", x -> x.restore(0), STATE);
        call.bare("restore(1), none was kept", x -> x.restore(1), STATE);
    }

    private void kinds() {
        due.sentence("The KIND of a PEG, as told (1 to 5). BAD.");
        for (int far : Refusals.FAR) {
            call.used("kind(" + far + ")", x -> x.kind(far), BAD);
        }
        call.used("kind(-1)", x -> x.kind(-1), BAD);
        call.used("kind(5)", x -> x.kind(5), BAD);
        call.bare("kind(0)", x -> x.kind(0), BAD);
        due.sentence("A PEG is taken as one of a KIND (0 .. 5): its number. BAD; KIND: it is no such one.");
        for (int far : Refusals.FAR) {
            call.used("as(" + far + ", 0)", x -> x.as(far, 0), BAD);
            call.used("as(0, " + far + ")", x -> x.as(0, far), BAD);
        }
        call.used("as(-1, 0)", x -> x.as(-1, 0), BAD);
        call.used("as(5, 0)", x -> x.as(5, 0), BAD);
        call.used("as(5, 3), BAD ahead of KIND", x -> x.as(5, 3), BAD);
        call.used("as(0, -1)", x -> x.as(0, -1), BAD);
        call.used("as(0, 6)", x -> x.as(0, 6), BAD);
        call.used("as(0, 2)", x -> x.as(0, 2), KIND);
        call.used("as(3, 5), a bridge is no end", x -> x.as(3, 5), KIND);
        call.used("as(4, 1), an end is no plain one", x -> x.as(4, 1), KIND);
        call.bare("as(0, 0)", x -> x.as(0, 0), BAD);
        call.bare("as(0, 6)", x -> x.as(0, 6), BAD);
    }

    private void asks() {
        due.sentence("An ASK (0, 1) of a PEG. BAD. THE TRACE is empty ahead of it.");
        for (int far : Refusals.FAR) {
            call.used("ask(" + far + ", 0)", x -> x.ask(far, 0), BAD);
            call.used("ask(0, " + far + ")", x -> x.ask(0, far), BAD);
        }
        call.used("ask(-1, 0)", x -> x.ask(-1, 0), BAD);
        call.used("ask(5, 0)", x -> x.ask(5, 0), BAD);
        call.used("ask(0, -1)", x -> x.ask(0, -1), BAD);
        call.used("ask(0, 2)", x -> x.ask(0, 2), BAD);
        call.bare("ask(0, 0)", x -> x.ask(0, 0), BAD);
        due.sentence("Number i of THE TRACE; NONE.");
        for (int far : Refusals.FAR) {
            call.used("trace(" + far + ")", x -> x.trace(far), NONE);
            call.bare("trace(" + far + ")", x -> x.trace(far), NONE);
        }
        call.used("trace(-1)", x -> x.trace(-1), NONE);
        call.used("trace(5), the last one", x -> x.trace(5), 20);
        call.used("trace(6)", x -> x.trace(6), NONE);
        call.used("trace(15)", x -> x.trace(15), NONE);
        call.used("trace(16)", x -> x.trace(16), NONE);
        call.bare("trace(0)", x -> x.trace(0), NONE);
        due.sentence("5 bytes on the tape. BAD.");
        for (int far : Refusals.FAR) {
            call.used("count(" + far + ")", x -> x.count(far), BAD);
        }
        call.used("count(-1)", x -> x.count(-1), BAD);
        call.used("count(6)", x -> x.count(6), BAD);
        call.bare("count(6)", x -> x.count(6), BAD);
    }

    /** The calls that are not refused: behind used() VERSINES are 13 17 31 5 7, NOW is 5 24 29 5 7. */
    private void foretold() {
        due.sentence("FORETOLD (nothing changes).");
        call.used("line(0)", x -> x.line(0), 19);
        call.used("line(4)", x -> x.line(4), 0);
        call.used("best(0)", x -> x.best(0), 0);
        call.used("best(11)", x -> x.best(11), -2);
        call.used("wrong(0)", x -> x.wrong(0), 0);
        call.used("wrong(1)", x -> x.wrong(1), 17);
        call.used("chance(99, 3, 0)", x -> x.chance(99, 3, 0), 1);
        call.used("chance(99, 3, 1)", x -> x.chance(99, 3, 1), 1);
        call.used("drawn(0, 1, 0)", x -> x.drawn(0, 1, 0), 19);
        call.used("drawn(60, 7, 1) again", x -> x.drawn(60, 7, 1) - x.drawn(60, 7, 1), 0);
        call.used("kind(4)", x -> x.kind(4), 5);
        call.used("peg(4, 0)", x -> x.peg(4, 0), 7);
        call.used("fault()", SlewRails::fault, 2);
        call.used("status()", SlewRails::status, 5);
        call.behind(Refusals::used, "moment(0)", x -> x.moment(0), 0, 0);
        call.behind(Refusals::used, "as(4, 4)", x -> x.as(4, 4), 4, 0);
        call.behind(Refusals::used, "fits(0, 0, 4, 0)", x -> x.fits(0, 0, 4, 0), 0, 0);
        call.behind(Refusals::used, "fits(0, 0, 4, 1)", x -> x.fits(0, 0, 4, 1), 0, 0);
        call.behind(Refusals::used, "fits(0, 0, 4, 2)", x -> x.fits(0, 0, 4, 2), NONE, 0);
        call.behind(Refusals::used, "copy(0, 1, 0, 1, 3) to where it is", x -> x.copy(0, 1, 0, 1, 3), 3, 0);
        call.behind(Refusals::used, "copy(0, 4, 0, 4, 0) of none", x -> x.copy(0, 4, 0, 4, 0), 0, 0);
        call.behind(Refusals::used, "copy(2, 0, 2, 0, 0) of an empty one", x -> x.copy(2, 0, 2, 0, 0), 0, 0);
    }

    public static void main(String[] args) {
        RefusedForetoldTest test = new RefusedForetoldTest();
        test.bestAndWrong();
        test.moment();
        test.fits();
        test.tell();
        test.chance();
        test.drawn();
        test.images();
        test.kinds();
        test.asks();
        test.foretold();
        test.due.end();
    }
}
