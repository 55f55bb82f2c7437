/** Promises 6 to 8: feed, rail, fault, and the TEXTS. */
public final class TextTest {
    private static final int BAD = SlewRails.BAD, FULL = SlewRails.FULL;

    private static void feed(Due due) {
        SlewRails x = new SlewRails();
        due.is("feed(-1)", x.feed(-1), BAD);
        due.is("feed(256)", x.feed(256), BAD);
        due.is("feed(0)", x.feed(0), 1);
        due.is("feed(255)", x.feed(255), 2);
        for (int i = 3; i <= 120; i++) {
            due.is("feed " + i, x.feed('p'), i);
        }
        due.is("feed beyond 120", x.feed('p'), FULL);
        due.is("BAD ahead of FULL", x.feed(256), BAD);
        due.is("count(5)", x.count(5), 120);
        due.is("rail() of a full tape", x.rail(), -1000100);
        due.is("count(5) then", x.count(5), 0);
        due.is("feed then", x.feed('p'), 1);
    }

    private static void good(Due due) {
        SlewRails x = new SlewRails();
        due.is("all sorts", Due.read(x, "p10,3;b20,2;s60,1;j0,0;e5,3;"), 5);
        due.is("the tape is empty", x.count(5), 0);
        due.are("VERSINES", Due.pegs(x, 0), 10, 20, 60, 0, 5);
        due.are("BOUNDS", Due.pegs(x, 1), 3, 2, 1, 0, 3);
        due.is("kind 0", x.kind(0), 1);
        due.is("kind 1", x.kind(1), 4);
        due.is("kind 2", x.kind(2), 2);
        due.is("kind 3", x.kind(3), 3);
        due.is("kind 4", x.kind(4), 5);
        due.is("fault() before one", x.fault(), 0);
        due.is("figures with 0 ahead", Due.read(x, "p00,03;p07,00;p60,01;"), 3);
        due.are("VERSINES", Due.pegs(x, 0), 0, 7, 60);
        due.are("BOUNDS", Due.pegs(x, 1), 3, 0, 1);
        due.is("12 PEGS", Due.read(x, "p1,1;".repeat(12)), 12);
    }

    private static void inPlace(Due due) {
        SlewRails x = Due.of("p10,3;p20,3;p30,3;p40,3;");
        x.lay(1, 2);
        x.lay(2, -2);
        x.work();
        x.lay(0, 3);
        x.drawn(3, 1, 0);
        due.is("another rail", Due.read(x, "p1,3;p2,3;p3,3;"), 3);
        due.is("its PEGS", x.count(1), 3);
        due.are("its SLEWS are 0", Due.pegs(x, 3), 0, 0, 0);
        due.is("no ACT can be undone", x.count(4), 0);
        due.is("undo()", x.undo(), SlewRails.STATE);
        due.is("worked in since it was read", x.count(3), 0);
        x.lay(1, 1);
        due.is("a FAULT", Due.read(x, "p1,3;p2,3;p3,4;"), -1000113);
        due.is("all stays: PEGS", x.count(1), 3);
        due.are("all stays: SLEWS", Due.pegs(x, 3), 0, 1, 0);
        due.is("all stays: ACTS", x.count(4), 1);
        due.is("but the tape is empty", x.count(5), 0);
        due.is("undo()", x.undo(), 0);
    }

    private static void fault(Due due, String text, int place, int number) {
        SlewRails x = new SlewRails();
        due.is("rail of \"" + text + "\"", Due.read(x, text), -1000100 - place);
        due.is("fault of \"" + text + "\"", x.fault(), number);
        due.is("tape behind \"" + text + "\"", x.count(5), 0);
        due.is("PEGS behind \"" + text + "\"", x.count(1), 0);
    }

    private static void faults(Due due) {
        fault(due, "", 0, 1);
        fault(due, "p", 1, 1);
        fault(due, "p1", 2, 1);
        fault(due, "p1,", 3, 1);
        fault(due, "p1,1", 4, 1);
        fault(due, "p1,1;", 5, 4);
        fault(due, "p1,1;p1,1;", 10, 4);
        fault(due, "x1,1;", 0, 1);
        fault(due, "1", 0, 1);
        fault(due, ",", 0, 1);
        fault(due, "pp", 1, 1);
        fault(due, "p,", 1, 1);
        fault(due, "p1;", 2, 1);
        fault(due, "p1p", 2, 1);
        fault(due, "p1,;", 3, 1);
        fault(due, "p1,1,", 4, 1);
        fault(due, "p1,1p", 4, 1);
        fault(due, "p1,1; ", 5, 1);
        fault(due, " p1,1;", 0, 1);
        fault(due, "P1,1;", 0, 1);
        fault(due, "p-1,1;", 1, 1);
        fault(due, "p61,1;", 1, 2);
        fault(due, "p99", 1, 2);
        fault(due, "p1,4;", 3, 2);
        fault(due, "p1,10;", 3, 2);
        fault(due, "p1,99", 3, 2);
        fault(due, "p100,1;", 1, 1);
        fault(due, "p001,1;", 1, 1);
        fault(due, "p9999,1;", 1, 1);
        fault(due, "p1,001;", 3, 1);
        fault(due, "p61,x", 1, 2);
        fault(due, "px61", 1, 1);
        String full = "p1,1;".repeat(12);
        fault(due, full + "p", 60, 3);
        fault(due, full + "e1,1;", 60, 3);
        fault(due, full + "x", 60, 1);
        fault(due, full + "1", 60, 1);
        fault(due, full + ";", 60, 1);
        fault(due, "p1,1;".repeat(11) + "p1,1", 59, 1);
        fault(due, "p1,1;p1,1;p1,1;\u00e9", 15, 1);
    }

    private static void latest(Due due) {
        SlewRails x = new SlewRails();
        Due.read(x, "p61");
        due.is("fault()", x.fault(), 2);
        Due.read(x, "p1,1;p1,1;p1,1;");
        due.is("fault() behind a rail without one", x.fault(), 2);
        Due.read(x, "p1,1;");
        due.is("fault() of the latest", x.fault(), 4);
    }

    public static void main(String[] args) {
        Due due = new Due("TextTest");
        feed(due);
        good(due);
        inPlace(due);
        faults(due);
        latest(due);
        due.end();
    }
}
