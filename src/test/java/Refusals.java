import java.util.List;

/** Makes a call on objects in several states, and tells whether it changed nothing but status(). */
final class Refusals {
    static final int NONE = SlewRails.NONE, BAD = SlewRails.BAD, STATE = SlewRails.STATE, FULL = SlewRails.FULL;
    static final int NULL = -1000011, PLACE = -1000012, KIND = -1000013, SIZE = -1000014, STORE = -1000015,
        OVER = -1000016;
    static final int LEAST = Integer.MIN_VALUE, MOST = Integer.MAX_VALUE;
    /** Numbers that no argument with bounds of its own may be. */
    static final int[] FAR = {LEAST, LEAST + 1, -2000000, 2000000, MOST - 1, MOST};

    /** A call, made on an object. */
    interface Call {
        long on(SlewRails x);
    }

    /** An object as it is ahead of a call; each time a new one. */
    interface State {
        SlewRails made();
    }

    private final Due due;

    Refusals(Due due) {
        this.due = due;
    }

    private static void fillRows(SlewRails x) {
        x.row(0, 0, 4);
        x.row(1, 1, 3);
        x.row(2, 2, 0);
        for (int i = 0; i < 4; i++) {
            x.set(0, i, 11 + i);
        }
        for (int i = 0; i < 3; i++) {
            x.set(1, i, 21 + i);
        }
        x.copy(0, 0, 1, 0, 1);
    }

    /** No RAIL; ROW 0 has 4 bytes, ROW 1 3 shorts, ROW 2 no ints, 3 to 7 are missing; FAULT 2; "p4" on the tape; status 5. */
    static SlewRails bare() {
        SlewRails x = new SlewRails();
        fillRows(x);
        Due.read(x, "p61");
        Due.feed(x, "p4");
        return x;
    }

    /** The same with a RAIL of all sorts, without ACTS: BOUNDS 3 3 2 3 1, REACH 3 2 2 0 0. */
    static SlewRails fresh() {
        SlewRails x = new SlewRails();
        fillRows(x);
        Due.read(x, "p10,3;s20,3;j30,2;b5,3;e7,1;");
        Due.read(x, "p61");
        Due.feed(x, "p4");
        return x;
    }

    /** The same with 5 ACTS, IMAGE 0 alone, and THE TRACE of a soft one. SLEWS are -3 2 0 0 0. */
    static SlewRails used() {
        SlewRails x = fresh();
        x.lay(0, 1);
        x.lay(1, -2);
        x.image(0);
        x.work();
        x.lay(0, -3);
        x.lay(1, 2);
        x.ask(1, 0);
        return x;
    }

    /** The same with 120 bytes on the tape. */
    static SlewRails full() {
        SlewRails x = used();
        for (int i = x.count(5); i < 120; i++) {
            x.feed(',');
        }
        return x;
    }

    /** The call answers so, status() is its FINDING, or as it was (5), and all else is as without the call. */
    void in(State state, String name, Call call, long answer) {
        boolean isFinding = answer <= NULL && answer >= OVER;
        behind(state, name, call, answer, isFinding ? -1000010 - answer : 5);
    }

    /** The same, but status() is known. */
    void behind(State state, String name, Call call, long answer, long status) {
        SlewRails x = state.made();
        due.is(name, call.on(x), answer);
        due.is(name + ", status() behind it", x.status(), status);
        same(name, Remains.of(x), Remains.of(state.made()));
    }

    private void same(String name, List<String> behind, List<String> ahead) {
        due.is(name + ", how much remains", behind.size(), ahead.size());
        for (int i = 0; i < Math.min(behind.size(), ahead.size()); i++) {
            if (!behind.get(i).equals(ahead.get(i))) {
                due.holds(name + " changed \"" + ahead.get(i) + "\" to \"" + behind.get(i) + "\"", false);
            }
        }
    }

    void used(String name, Call call, long answer) {
        in(Refusals::used, name, call, answer);
    }

    void bare(String name, Call call, long answer) {
        in(Refusals::bare, "no RAIL: " + name, call, answer);
    }

    void full(String name, Call call, long answer) {
        in(Refusals::full, "full tape: " + name, call, answer);
    }
}
