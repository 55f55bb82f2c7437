/** The edges of TEXTS: section 1 of the document's terms, and promises 6 to 8. RefusedTest has the refusals. */
public final class TextEdgesTest {
    private static final int FULL = SlewRails.FULL, BAD = SlewRails.BAD, STATE = SlewRails.STATE;
    private static final int FAULTS = -1000100;
    private static final String TWO = "p10,3;p10,3;";

    /** The text has a FAULT, at this place, of this number; the RAIL, none, stays. */
    private static void fault(Due due, String text, int place, int number) {
        SlewRails x = new SlewRails();
        due.is("rail() of \"" + text + "\"", Due.read(x, text), FAULTS - place);
        due.is("fault() of \"" + text + "\"", x.fault(), number);
        due.is("bytes behind \"" + text + "\"", x.count(5), 0);
        due.is("PEGS behind \"" + text + "\"", x.count(1), 0);
    }

    private static void good(Due due, String text, int pegs) {
        SlewRails x = new SlewRails();
        due.is("rail() of \"" + text + "\"", Due.read(x, text), pegs);
        due.is("fault() of \"" + text + "\"", x.fault(), 0);
        due.is("bytes behind \"" + text + "\"", x.count(5), 0);
        due.is("PEGS behind \"" + text + "\"", x.count(1), pegs);
    }

    private static void tape(Due due) {
        due.sentence("THE TAPE has at most 120 bytes, that come one by one");
        SlewRails x = new SlewRails();
        due.is("none at first", x.count(5), 0);
        for (int n = 1; n <= 120; n++) {
            due.is("feed, the one of number " + n, x.feed('p'), n);
            due.is("bytes", x.count(5), n);
        }
        due.is("feed, one more", x.feed('p'), FULL);
        due.is("bytes, full", x.count(5), 120);
        due.is("rail() of a full one", x.rail(), FAULTS - 1);
        due.is("bytes, empty", x.count(5), 0);
        due.is("rail() of an empty one", x.rail(), FAULTS);
        due.is("feed, the first one again", x.feed('p'), 1);
        SlewRails y = new SlewRails();
        Due.feed(y, "p00,00;".repeat(17) + "p");
        due.is("120 bytes with 17 PEGS", y.count(5), 120);
        due.is("one more", y.feed(';'), FULL);
        due.is("rail()", y.rail(), FAULTS - 84);
        due.is("fault()", y.fault(), 3);
    }

    private static void bytes(Due due) {
        due.sentence("A byte (0 to 255) comes behind the tape: how many it has.");
        for (int letter = -3; letter <= 258; letter++) {
            boolean isByte = letter >= 0 && letter <= 255;
            due.is("feed(" + letter + ")", new SlewRails().feed(letter), isByte ? 1 : BAD);
        }
    }

    /** Each byte in place of each byte of the third peg, and behind it. */
    private static void everyByte(Due due) {
        due.sentence("letters a to z (each by itself), NUMBERS (figures, 2 at most), SIGNS , and ; nothing else, "
            + "no blanks.");
        for (int b = 0; b <= 255; b++) {
            char c = (char) b;
            boolean isFigure = c >= '0' && c <= '9';
            boolean isSort = c == 'p' || c == 'b' || c == 's' || c == 'j' || c == 'e';
            put(due, TWO + c + "10,3;", isSort ? 0 : 1, 12);
            put(due, TWO + "p" + c + ",3;", isFigure ? 0 : 1, 13);
            put(due, TWO + "p1" + c + ",3;", isFigure ? 0 : 1, c == ',' ? 15 : 14);
            put(due, TWO + "p10" + c + "3;", c == ',' ? 0 : 1, isFigure ? 13 : 15);
            put(due, TWO + "p10," + c + ";", !isFigure ? 1 : c > '3' ? 2 : 0, 16);
            put(due, TWO + "p10,0" + c + ";", !isFigure ? 1 : c > '3' ? 2 : 0, isFigure ? 16 : c == ';' ? 18 : 17);
            put(due, TWO + "p10,3" + c, c == ';' ? 0 : isFigure ? 2 : 1, isFigure ? 16 : 17);
            put(due, TWO + "p10,3;" + c, 1, isSort ? 19 : 18);
        }
    }

    private static void put(Due due, String text, int number, int place) {
        if (number == 0) {
            good(due, text, 3);
        } else {
            fault(due, text, place, number);
        }
    }

    private static void numbers(Due due) {
        due.sentence("the VERSINE, 0 to 60; the BOUND, 0 to 3: how far it may be slewed to either side;");
        for (int v = 0; v <= 99; v++) {
            String two = (v < 10 ? "0" : "") + v;
            for (String figures : new String[] {"" + v, two}) {
                versine(due, figures, v);
                bound(due, figures, v);
            }
        }
    }

    private static void versine(Due due, String figures, int v) {
        String text = "p1,1;p" + figures + ",2;p3,3;";
        if (v > 60) {
            fault(due, text, 6, 2);
            return;
        }
        SlewRails x = Due.of(text);
        due.are("VERSINES of " + text, Due.pegs(x, 0), 1, v, 3);
    }

    private static void bound(Due due, String figures, int v) {
        String text = "p1,1;p20," + figures + ";p3,3;";
        if (v > 3) {
            fault(due, text, 9, 2);
            return;
        }
        SlewRails x = Due.of(text);
        due.are("BOUNDS of " + text, Due.pegs(x, 1), 1, v, 3);
    }

    private static void threeFigures(Due due) {
        due.sentence("1 it cannot stand there, or is none (a run of three figures, at its first; the end: how many bytes "
            + "there are);");
        for (int v = 0; v <= 999; v++) {
            String figures = ("00" + v).substring(("00" + v).length() - 3);
            fault(due, "p" + figures + ",1;", 1, 1);
            fault(due, "p1," + figures + ";", 3, 1);
        }
        fault(due, "p1,1;000", 5, 1);
        fault(due, "0000", 0, 1);
        fault(due, "p000", 1, 1);
        fault(due, "p" + "0".repeat(119), 1, 1);
        fault(due, "p1,0000000", 3, 1);
        fault(due, "p1234", 1, 1);
    }

    /** Where a text ends too early: behind each of its bytes. */
    private static void ends(Due due) {
        due.sentence("the end: how many bytes there are");
        String text = "p10,3;s9,2;j0,03;";
        for (int n = 0; n < text.length(); n++) {
            boolean isWhole = n == 6 || n == 11;
            fault(due, text.substring(0, n), n, isWhole ? 4 : 1);
        }
        good(due, text, 3);
        for (int n = 1; n < 6; n++) {
            fault(due, text + "e59,1;".substring(0, n), 17 + n, 1);
        }
        good(due, text + "e59,1;", 4);
    }

    private static void manyPegs(Due due) {
        due.sentence("PEGS 0 .. 11, 12 at most, 3 at least, else FAULT 4 at the end");
        fault(due, "", 0, 1);
        for (String peg : new String[] {"p1,1;", "e59,3;", "s00,00;"}) {
            fault(due, peg, peg.length(), 4);
            fault(due, peg.repeat(2), 2 * peg.length(), 4);
            for (int n = 3; n <= 12; n++) {
                good(due, peg.repeat(n), n);
            }
            for (int n = 13; n <= 17; n++) {
                fault(due, peg.repeat(n), 12 * peg.length(), 3);
            }
        }
        SlewRails x = Due.of("p1,1;".repeat(12));
        due.is("PEG 11", x.peg(11, 0), 1);
        due.is("PEG 12", x.peg(12, 0), BAD);
        due.is("PEG -1", x.peg(-1, 0), BAD);
        SlewRails y = Due.of("p1,1;p2,1;p3,1;");
        due.is("PEG 2", y.peg(2, 0), 3);
        due.is("PEG 3", y.peg(3, 0), BAD);
    }

    private static void firstToken(Due due) {
        due.sentence("FAULTS, the first TOKEN that has one (its first byte), of one TOKEN the least:");
        eachFault(due);
        fault(due, "p61,4;x", 1, 2);
        fault(due, "p60,4;x", 4, 2);
        fault(due, "p60,3;x", 6, 1);
        fault(due, "p99", 1, 2);
        fault(due, "px", 1, 1);
        fault(due, "p1,4;p61,1;p1,1;", 3, 2);
        fault(due, "p1,1;p61,4;p1,1;", 6, 2);
        fault(due, "p1,1;p1,4", 8, 2);
        fault(due, "xp61", 0, 1);
        String full = "p1,1;".repeat(12);
        for (String sort : new String[] {"p", "b", "s", "j", "e"}) {
            fault(due, full + sort, 60, 3);
            fault(due, full + sort + "61,9;", 60, 3);
            fault(due, full + sort + "x", 60, 3);
        }
        for (String other : new String[] {"a", "z", "x", ",", ";", "1", "99", "999", " ", "P"}) {
            fault(due, full + other, 60, 1);
        }
        fault(due, "p999,1;", 1, 1);
        fault(due, "p1,999;", 3, 1);
        fault(due, "p1,1;61", 5, 1);
        fault(due, "p1,61", 3, 2);
        fault(due, "61", 0, 1);
        fault(due, "p1;61", 2, 1);
        fault(due, "p1,1;p", 6, 1);
        fault(due, "p1,1;p1,1;p", 11, 1);
    }

    /** Several FAULTS in one text, each alone in turn. */
    private static void eachFault(Due due) {
        String full = "p1,1;".repeat(12);
        fault(due, "p61,9;x", 1, 2);
        fault(due, "p1,9;x", 3, 2);
        fault(due, "p1,1;x", 5, 1);
        fault(due, "p1,1;", 5, 4);
        fault(due, "p99," + full + "p", 1, 2);
        fault(due, full + "p99,9;", 60, 3);
    }

    private static void faultNumbers(Due due) {
        due.sentence("2 a NUMBER that is not as told; 3 a peg more than there is room for (its letter); 4 as told.");
        fault(due, "p60,3;p61,3;p1,1;", 7, 2);
        fault(due, "p60,3;p60,4;p1,1;", 10, 2);
        good(due, "p60,3;p60,3;p1,1;", 3);
        fault(due, "p60,3;".repeat(13), 72, 3);
        good(due, "p60,3;".repeat(12), 12);
        fault(due, "p60,3;p60,3;", 12, 4);
        due.sentence("rail: peg { peg }. peg: SORT V , B ; (SORT: p a plain one, b one at a bridge, s a soft one, j a joint, e "
            + "an end;");
        SlewRails x = Due.of("p1,0;b2,1;s3,2;j4,3;e5,0;");
        long[] kinds = {1, 4, 2, 3, 5};
        for (int p = 0; p < 5; p++) {
            due.is("kind(" + p + ")", x.kind(p), kinds[p]);
        }
        due.are("VERSINES", Due.pegs(x, 0), 1, 2, 3, 4, 5);
        due.are("BOUNDS", Due.pegs(x, 1), 0, 1, 2, 3, 0);
    }

    private static void inPlace(Due due) {
        due.sentence("A RAIL that is read stands in place of the one before (none at first): all SLEWS are 0; no ACT can "
            + "be undone.");
        SlewRails x = new SlewRails();
        due.is("none at first", x.count(1), 0);
        due.is("work() without one", x.work(), STATE);
        Due.read(x, "p9,3;".repeat(12));
        x.gang(0, 12);
        x.lay(0, 3);
        x.lay(11, -3);
        x.work();
        x.lay(0, 1);
        x.gang(0, 12);
        due.is("ACTS", x.count(4), 24);
        due.is("another, of fewer PEGS", Due.read(x, "p9,3;".repeat(3)), 3);
        due.are("SLEWS", Due.pegs(x, 3), 0, 0, 0);
        due.are("VERSINES", Due.pegs(x, 0), 9, 9, 9);
        due.is("PEG 3", x.peg(3, 0), BAD);
        due.is("ACTS", x.count(4), 0);
        due.is("undo()", x.undo(), STATE);
        due.is("WORKED IN since it was read", x.count(3), 0);
        x.lay(2, 3);
        due.is("another, of more PEGS", Due.read(x, "s60,3;".repeat(12)), 12);
        due.are("SLEWS", Due.pegs(x, 3), new long[12]);
        due.is("undo()", x.undo(), STATE);
    }

    private static void allStays(Due due) {
        due.sentence("The tape, empty then, is read: how many PEGS there are. -1000100 less the place of a FAULT: "
            + "all stays.");
        String[] texts = {"", "x", "p61", "p1,1;p1,1;", "p1,1;".repeat(13), "p1,1;p2,2;p3,3;x", "e1,1;b2,2;p3,3;p"};
        int[] places = {0, 0, 1, 10, 60, 15, 16};
        for (int k = 0; k < texts.length; k++) {
            SlewRails x = Due.of("p10,3;s20,3;j30,2;b5,3;e7,1;");
            x.lay(0, 2);
            x.work();
            x.lay(0, -1);
            x.image(1);
            x.ask(0, 1);
            due.is("rail() of \"" + texts[k] + "\"", Due.read(x, texts[k]), FAULTS - places[k]);
            due.is("but the tape: bytes", x.count(5), 0);
            due.are("VERSINES", Due.pegs(x, 0), 14, 18, 30, 5, 7);
            due.are("BOUNDS", Due.pegs(x, 1), 3, 3, 2, 3, 1);
            due.are("SLEWS", Due.pegs(x, 3), -1, 0, 0, 0, 0);
            due.is("KIND", x.kind(4), 5);
            due.are("THE TRACE", Due.trace(x), 21, 20);
            due.is("WORKED IN", x.count(3), 1);
            due.is("ACTS", x.count(4), 3);
            due.is("undo()", x.undo(), 2);
            due.is("undo()", x.undo(), 1);
            due.are("VERSINES", Due.pegs(x, 0), 10, 20, 30, 5, 7);
            due.is("restore(1)", x.restore(1), 1);
            due.is("restore(0)", x.restore(0), STATE);
            due.is("the next text begins anew", Due.read(x, "p1,1;p2,2;p3,3;"), 3);
        }
    }

    private static void latestFault(Due due) {
        due.sentence("The number of the latest FAULT; 0 before one.");
        SlewRails x = new SlewRails();
        due.is("at first", x.fault(), 0);
        Due.read(x, "p1,1;p2,2;p3,3;");
        due.is("behind a text without one", x.fault(), 0);
        Due.read(x, "p1,1;".repeat(13));
        due.is("3", x.fault(), 3);
        Due.read(x, "p61");
        due.is("2", x.fault(), 2);
        x.rail();
        due.is("1, of no bytes", x.fault(), 1);
        Due.read(x, "p1,1;p2,2;");
        due.is("4", x.fault(), 4);
        Due.read(x, "p1,1;p2,2;p3,3;");
        due.is("the latest, behind a text without one", x.fault(), 4);
        x.image(0);
        x.restore(0);
        x.feed(300);
        due.is("the latest, behind other calls", x.fault(), 4);
    }

    public static void main(String[] args) {
        Due due = new Due("TextEdgesTest");
        tape(due);
        bytes(due);
        everyByte(due);
        numbers(due);
        threeFigures(due);
        ends(due);
        manyPegs(due);
        firstToken(due);
        faultNumbers(due);
        inPlace(due);
        allStays(due);
        latestFault(due);
        due.end();
    }
}
