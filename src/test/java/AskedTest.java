/** Promises 26 to 31: kind, as, ask, trace, count, status. */
public final class AskedTest {
    private static final int BAD = SlewRails.BAD, NONE = SlewRails.NONE, KIND = -1000013;
    private static final String SORTS = "p10,3;s20,3;j30,2;b5,3;e7,1;";
    /** By PEG, what KINDS it is, as bits. */
    private static final int[] IS = {0b000011, 0b000111, 0b001011, 0b010001, 0b110001};

    private static void kinds(Due due) {
        SlewRails x = Due.of(SORTS);
        for (int p = 0; p < 5; p++) {
            due.is("kind(" + p + ")", x.kind(p), p + 1);
            for (int k = 0; k <= 5; k++) {
                boolean is = (IS[p] >> k & 1) == 1;
                due.is("as(" + p + ", " + k + ")", x.as(p, k), is ? p : KIND);
                due.is("status()", x.status(), is ? 0 : 3);
            }
        }
        due.is("kind(5)", x.kind(5), BAD);
        due.is("kind(-1)", x.kind(-1), BAD);
        due.is("as(5, 0)", x.as(5, 0), BAD);
        due.is("as(-1, 0)", x.as(-1, 0), BAD);
        due.is("as(0, 6)", x.as(0, 6), BAD);
        due.is("as(0, -1)", x.as(0, -1), BAD);
        due.is("no RAIL", new SlewRails().kind(0), BAD);
        due.is("no RAIL", new SlewRails().as(0, 0), BAD);
    }

    /** NOW is 2 27 28 5 7, SLEWS are -3 2 0 0 0. */
    private static void asks(Due due) {
        SlewRails x = Due.of(SORTS);
        x.lay(1, 2);
        x.lay(0, -3);
        due.is("SIZE of a plain one", x.ask(0, 0), 2 + 0 - 3);
        due.are("THE TRACE", Due.trace(x), 11, 10, 21, 20);
        due.is("MARK of a plain one", x.ask(0, 1), 0 - 3);
        due.are("THE TRACE", Due.trace(x), 21, 20);
        due.is("SIZE of a soft one", x.ask(1, 0), -(27 + 2 * (1 + 2)));
        due.are("THE TRACE", Due.trace(x), 12, 11, 10, 24, 21, 20);
        due.is("MARK of a soft one", x.ask(1, 1), 2 * (1 + 2));
        due.are("THE TRACE", Due.trace(x), 24, 21, 20);
        due.is("SIZE of a joint", x.ask(2, 0), 28 + 2 - 1000);
        due.are("THE TRACE", Due.trace(x), 11, 10, 22, 21, 20);
        due.is("MARK of a joint", x.ask(2, 1), 2 - 1000);
        due.are("THE TRACE", Due.trace(x), 22, 21, 20);
        due.is("SIZE of a bridge", x.ask(3, 0), 5 - 100);
        due.are("THE TRACE", Due.trace(x), 13, 10);
        due.is("MARK of a bridge", x.ask(3, 1), 3 - (5 - 100));
        due.are("THE TRACE", Due.trace(x), 23, 20, 13, 10);
        due.is("SIZE of an end", x.ask(4, 0), 2 * (7 - 100));
        due.are("THE TRACE", Due.trace(x), 14, 13, 10);
        due.is("MARK of an end", x.ask(4, 1), 4 - 2 * (7 - 100));
        due.are("THE TRACE", Due.trace(x), 23, 20, 14, 13, 10);
    }

    private static void asksRefused(Due due) {
        SlewRails x = Due.of(SORTS);
        x.ask(0, 1);
        due.is("ask(0, 2)", x.ask(0, 2), BAD);
        due.is("ask(0, -1)", x.ask(0, -1), BAD);
        due.is("ask(5, 0)", x.ask(5, 0), BAD);
        due.is("ask(-1, 0)", x.ask(-1, 0), BAD);
        due.are("what is refused leaves THE TRACE", Due.trace(x), 21, 20);
        due.is("trace(-1)", x.trace(-1), NONE);
        due.is("trace(2)", x.trace(2), NONE);
        due.is("trace(16)", x.trace(16), NONE);
        due.is("trace(LEAST)", x.trace(Integer.MIN_VALUE), NONE);
        due.is("trace(MOST)", x.trace(Integer.MAX_VALUE), NONE);
        Due.read(x, SORTS);
        due.are("a RAIL leaves THE TRACE", Due.trace(x), 21, 20);
        due.is("no RAIL", new SlewRails().ask(0, 0), BAD);
    }

    private static void counts(Due due) {
        SlewRails x = Due.of(SORTS);
        x.row(0, 0, 0);
        x.row(5, 1, 3);
        x.row(5, 2, 3);
        due.is("ROWS", x.count(0), 2);
        x.drop(0);
        due.is("ROWS", x.count(0), 1);
        due.is("PEGS", x.count(1), 5);
        x.lay(0, 1);
        x.lay(1, -1);
        x.lay(2, 0);
        due.is("PEGS that have a SLEW", x.count(2), 2);
        due.is("ACTS", x.count(4), 3);
        x.work();
        x.work();
        due.is("worked in", x.count(3), 2);
        due.is("PEGS that have a SLEW", x.count(2), 0);
        x.drawn(60, 1, 0);
        due.is("worked in, not by what is foretold", x.count(3), 2);
        x.feed('p');
        x.feed(0);
        due.is("bytes", x.count(5), 2);
        due.is("count(6)", x.count(6), BAD);
        due.is("count(-1)", x.count(-1), BAD);
    }

    private static void status(Due due) {
        SlewRails x = new SlewRails();
        due.is("at first", x.status(), 0);
        x.row(0, 0, -1);
        due.is("SIZE", x.status(), 4);
        x.row(8, 0, 1);
        x.set(8, 0, 1);
        x.copy(8, 0, 0, 0, 1);
        x.drop(8);
        x.fits(0, 0, 1, 0);
        x.tell(0, 0, 0);
        x.as(0, 0);
        x.moment(1);
        due.is("BAD, STATE leave it", x.status(), 4);
        x.row(0, 0, 3);
        due.is("row", x.status(), 0);
        x.set(1, 0, 0);
        due.is("set, NULL", x.status(), 1);
        x.set(0, 0, 0);
        due.is("set", x.status(), 0);
        x.set(0, 3, 0);
        due.is("set, PLACE", x.status(), 2);
        x.copy(0, 0, 0, 1, 2);
        due.is("copy", x.status(), 0);
        x.row(1, 1, 3);
        x.copy(0, 0, 1, 0, 1);
        due.is("copy, STORE", x.status(), 5);
        x.drop(1);
        due.is("drop", x.status(), 0);
        x.drop(1);
        due.is("drop, NULL", x.status(), 1);
        statusOfRails(due, x);
    }

    private static void statusOfRails(Due due, SlewRails x) {
        Due.read(x, SORTS);
        x.lay(0, 1);
        x.work();
        x.undo();
        x.line(0);
        x.best(0);
        x.ask(0, 0);
        x.count(0);
        x.kind(0);
        due.is("calls without a ROW leave it", x.status(), 1);
        x.tell(0, 0, 0);
        due.is("tell", x.status(), 0);
        x.fits(0, 1, 1, 0);
        due.is("fits, NULL", x.status(), 1);
        x.fits(0, 0, 1, 0);
        due.is("fits", x.status(), 0);
        x.moment(Integer.MAX_VALUE);
        due.is("moment, OVER", x.status(), 6);
        x.moment(1);
        due.is("moment", x.status(), 0);
        x.as(0, 5);
        due.is("as, KIND", x.status(), 3);
        x.as(0, 9);
        due.is("as, BAD", x.status(), 3);
        x.as(0, 1);
        due.is("as", x.status(), 0);
    }

    public static void main(String[] args) {
        Due due = new Due("AskedTest");
        kinds(due);
        asks(due);
        asksRefused(due);
        counts(due);
        status(due);
        due.end();
    }
}
