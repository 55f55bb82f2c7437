/** The edges of REACH, SLEWS, STEPS, WORKED IN, GANGS, ACTS: section 2 of the document's terms, and promises 9 to 16. */
public final class SlewEdgesTest {
    private static final int NONE = SlewRails.NONE, BAD = SlewRails.BAD, STATE = SlewRails.STATE;
    private static final String SORTS = "pbsje";

    /** By sort and BOUND: REACH. */
    private static final int[][] REACH = {{0, 1, 2, 3}, {0, 0, 0, 0}, {0, 0, 1, 2}, {0, 1, 2, 3}, {0, 0, 0, 0}};

    private static String around(char sort, int bound) {
        return "p30,3;" + sort + "30," + bound + ";p30,3;";
    }

    private static void reach(Due due) {
        due.sentence("REACH of a PEG: how far it may be slewed: its BOUND; of one at a bridge, of an end 0; of a soft one 1 "
            + "less (0 at least). The SLEWS (-3 to 3, outward above 0): a PEG may have one from 0 less its REACH to its "
            + "REACH.");
        for (int sort = 0; sort < 5; sort++) {
            for (int bound = 0; bound <= 3; bound++) {
                String text = around(SORTS.charAt(sort), bound);
                int reach = REACH[sort][bound];
                due.is("REACH of " + text, Due.of(text).peg(1, 2), reach);
                for (int v = -5; v <= 5; v++) {
                    SlewRails x = Due.of(text);
                    boolean isLaid = Math.abs(v) <= reach;
                    due.is("lay(1, " + v + ") of " + text, x.lay(1, v), Math.abs(v) > 3 ? BAD : isLaid ? 0 : STATE);
                    due.is("SLEW then", x.peg(1, 3), isLaid ? v : 0);
                    due.is("ACTS then", x.count(4), isLaid ? 1 : 0);
                    due.is("what it was", x.lay(1, 0), isLaid ? v : 0);
                }
            }
        }
    }

    private static void now(Due due) {
        due.sentence("A SLEW makes a VERSINE more by twice itself, and that of each neighbour less by itself. NOW of a "
            + "PEG: VERSINE as it is made so by all SLEWS.");
        for (int v = -3; v <= 3; v++) {
            SlewRails first = Due.of("p10,3;p20,3;p30,3;p40,3;");
            first.lay(0, v);
            due.are("NOW, the first slewed " + v, Due.pegs(first, 4), 10 + 2 * v, 20 - v, 30, 40);
            SlewRails inside = Due.of("p10,3;p20,3;p30,3;p40,3;");
            inside.lay(2, v);
            due.are("NOW, PEG 2 slewed " + v, Due.pegs(inside, 4), 10, 20 - v, 30 + 2 * v, 40 - v);
            SlewRails last = Due.of("p10,3;p20,3;p30,3;p40,3;");
            last.lay(3, v);
            due.are("NOW, the last slewed " + v, Due.pegs(last, 4), 10, 20, 30 - v, 40 + 2 * v);
            due.are("VERSINES stay", Due.pegs(last, 0), 10, 20, 30, 40);
        }
        SlewRails all = Due.of("p0,3;p60,3;p0,3;");
        all.lay(0, -3);
        all.lay(1, 3);
        all.lay(2, -3);
        due.are("NOW below 0 and above 60", Due.pegs(all, 4), -9, 72, -9);
        due.is("together", all.line(2), 54);
        due.is("SLEWS, together", all.line(3), -3);
        due.is("PEGS that have a SLEW", all.count(2), 3);
        SlewRails twelve = Due.of("p10,3;".repeat(12));
        for (int p = 0; p < 12; p++) {
            twelve.lay(p, 3);
        }
        due.are("NOW, 12 PEGS all slewed", Due.pegs(twelve, 4), 13, 10, 10, 10, 10, 10, 10, 10, 10, 10, 10, 13);
        due.is("together", twelve.line(2), 126);
        due.is("SLEWS, together", twelve.line(3), 36);
        twelve.lay(11, -3);
        due.is("SLEWS, together, the last another", twelve.line(3), 30);
    }

    /** Each sort at each of three PEGS, VERSINES 10, 25, 5. */
    private static void steps(Due due) {
        due.sentence("STEP of a PEG (not the last one): how much NOW of it and of the next one are apart (0 or more), but "
            + "0 of a joint, and of one ahead of a joint. WORST: the greatest STEP of all. UNEVEN: all STEPS together.");
        for (int k = 0; k < 125; k++) {
            char a = SORTS.charAt(k / 25);
            char b = SORTS.charAt(k / 5 % 5);
            char c = SORTS.charAt(k % 5);
            String text = a + "10,3;" + b + "25,3;" + c + "5,3;";
            SlewRails x = Due.of(text);
            int first = a == 'j' || b == 'j' ? 0 : 15;
            int second = b == 'j' || c == 'j' ? 0 : 20;
            due.are("STEPS of " + text, Due.pegs(x, 5), first, second, NONE);
            due.is("WORST of " + text, x.line(0), Math.max(first, second));
            due.is("UNEVEN of " + text, x.line(1), first + second);
        }
        SlewRails even = Due.of("p7,3;p7,3;p7,3;");
        due.are("STEPS of an even one", Due.pegs(even, 5), 0, 0, NONE);
        due.is("WORST of an even one", even.line(0) + even.line(1), 0);
        SlewRails twelve = Due.of("p0,0;p60,0;".repeat(6));
        due.is("STEP of PEG 10", twelve.peg(10, 5), 60);
        due.is("STEP of PEG 11", twelve.peg(11, 5), NONE);
        due.is("UNEVEN of 12", twelve.line(1), 660);
    }

    private static void workedIn(Due due) {
        due.sentence("WORKED IN: first the SLEW of each soft PEG is less by half of itself (cut), as that goes back;");
        int[] settled = {-1, -1, 0, 1, 1};
        for (int v = -2; v <= 2; v++) {
            SlewRails soft = Due.of(around('s', 3));
            soft.lay(1, v);
            due.is("moved, a soft one, " + v, soft.work(), Math.abs(v));
            int by = settled[v + 2];
            due.are("VERSINES, a soft one, " + v, Due.pegs(soft, 0), 30 - by, 30 + 2 * by, 30 - by);
            for (char sort : new char[] {'p', 'j'}) {
                SlewRails x = Due.of(around(sort, 3));
                x.lay(1, v);
                due.is("moved, " + sort + ", " + v, x.work(), Math.abs(v));
                due.are("VERSINES, " + sort + ", " + v, Due.pegs(x, 0), 30 - v, 30 + 2 * v, 30 - v);
                due.are("SLEWS, " + sort + ", " + v, Due.pegs(x, 3), 0, 0, 0);
            }
        }
        SlewRails all = Due.of("s30,3;".repeat(12));
        for (int p = 0; p < 12; p++) {
            all.lay(p, p % 2 == 0 ? 2 : -2);
        }
        due.is("moved, 12 soft ones", all.work(), 24);
        due.are("VERSINES, 12 soft ones", Due.pegs(all, 0), 33, 26, 34, 26, 34, 26, 34, 26, 34, 26, 34, 27);
        due.is("no SLEW", all.count(2), 0);
        due.is("moved, nothing", all.work(), 0);
        due.is("that is an ACT, too", all.count(4), 14);
    }

    /** VERSINE of PEG 1 is brought to v and 6 times 166 (or less that), by 332 calls. */
    private static SlewRails far(int v, int slew) {
        SlewRails x = Due.of("e0,0;p" + v + ",3;e0,0;");
        for (int k = 0; k < 166; k++) {
            x.lay(1, slew);
            x.work();
        }
        return x;
    }

    private static void beyond(Due due) {
        due.sentence("then VERSINE of each PEG becomes what it is NOW by these, but not beyond -999 and 999; then all SLEWS "
            + "become 0.");
        for (int sign = -1; sign <= 1; sign += 2) {
            SlewRails x = far(0, 3 * sign);
            due.is("VERSINE", x.peg(1, 0), 996 * sign);
            x.lay(1, sign);
            x.work();
            due.is("998, within", x.peg(1, 0), 998 * sign);
            x.lay(1, sign);
            due.is("NOW is 1000", x.peg(1, 4), 1000 * sign);
            x.work();
            due.are("but not beyond 999", Due.pegs(x, 0), -500 * sign, 999 * sign, -500 * sign);
            due.are("SLEWS are 0", Due.pegs(x, 3), 0, 0, 0);
            due.is("NOW", x.peg(1, 4), 999 * sign);
            due.is("UNEVEN", x.line(1), 2 * 1499);
            x.lay(1, 3 * sign);
            due.is("NOW is beyond", x.peg(1, 4), 1005 * sign);
            due.is("what a VERSINE was beyond 60", x.read(1, 60), 999 * sign);
            x.undo();
            x.work();
            due.is("999 stays", x.peg(1, 0), 999 * sign);
            x.lay(1, -sign);
            x.work();
            due.is("and comes back", x.peg(1, 0), 997 * sign);
            x.undo();
            x.undo();
            x.undo();
            due.is("undone, SLEW", x.peg(1, 3), 3 * sign);
            due.is("undone, NOW", x.peg(1, 4), 1005 * sign);
        }
        SlewRails y = far(3, 3);
        due.is("999 itself", y.peg(1, 0), 999);
        SlewRails z = far(3, -3);
        due.is("-993", z.peg(1, 0), -993);
        z.lay(1, -3);
        z.work();
        due.is("-999 itself", z.peg(1, 0), -999);
    }

    /** VERSINES from 0 to 60 at two PEGS, the SLEW that makes their STEP least is found one by one. */
    private static void gangSlews(Due due) {
        due.sentence("to each the SLEW is laid that makes the STEP of the one ahead of it (of PEG 0: of itself) least, of "
            + "several the one that is nearest to 0, then the one below 0;");
        for (int d = -13; d <= 13; d++) {
            for (int bound = 0; bound <= 3; bound++) {
                String text = "p" + (30 + d) + "," + bound + ";p30," + bound + ";p60,3;";
                int least = 0;
                for (int v = -bound; v <= bound; v++) {
                    least = Math.abs(d + 3 * v) < Math.abs(d + 3 * least) ? v : least;
                }
                SlewRails first = Due.of(text);
                first.gang(0, 1);
                due.are("gang(0, 1) of " + text, Due.pegs(first, 3), least, 0, 0);
                SlewRails second = Due.of(text);
                second.gang(1, 1);
                due.are("gang(1, 1) of " + text, Due.pegs(second, 3), 0, -least, 0);
            }
        }
        String[] eased = {"j10,3;p40,3;p10,3;", "p10,3;j40,3;p10,3;"};
        for (String text : eased) {
            SlewRails x = Due.of(text);
            x.lay(0, 2);
            x.lay(1, -3);
            x.gang(0, 2);
            due.are("of a STEP that is 0 anyway the one nearest to 0, " + text, Due.pegs(x, 3), 0, 0, 0);
        }
        SlewRails held = Due.of("p10,3;b40,3;e10,3;s0,1;");
        held.gang(1, 3);
        due.are("within REACH 0", Due.pegs(held, 3), 0, 0, 0, 0);
        due.is("0 is laid, too", held.count(4), 3);
        SlewRails soft = Due.of("p60,3;s0,3;p60,3;");
        soft.gang(1, 1);
        due.are("within REACH of a soft one", Due.pegs(soft, 3), 0, 2, 0);
    }

    private static void gangEnds(Due due) {
        due.sentence("A GANG goes from a PEG on, n PEGS (to the last one at most)");
        for (int pegs : new int[] {3, 5, 12}) {
            for (int peg = -1; peg <= pegs; peg++) {
                for (int n = -1; n <= 14; n++) {
                    SlewRails x = Due.of("p60,3;b10,3;s30,2;j19,1;".repeat(3).substring(0, 6 * pegs));
                    boolean isOne = peg >= 0 && peg < pegs && n >= 1 && n <= 12;
                    long worst = x.gang(peg, n);
                    due.is("PEGS", x.count(1), pegs);
                    due.is("gang(" + peg + ", " + n + ")", worst, isOne ? x.line(0) : BAD);
                    due.is("ACTS of gang(" + peg + ", " + n + ")", x.count(4), isOne ? Math.min(n, pegs - peg) : 0);
                }
            }
        }
    }

    private static void gangInTurn(Due due) {
        due.sentence("one PEG behind the other.");
        String text = "p10,3;p30,3;s5,3;p60,2;p0,3;b20,3;p21,3;";
        SlewRails all = Due.of(text);
        SlewRails each = Due.of(text);
        long worst = all.gang(0, 7);
        for (int p = 0; p < 7; p++) {
            each.gang(p, 1);
        }
        due.are("SLEWS", Due.pegs(all, 3), Due.pegs(each, 3));
        due.is("WORST then", worst, each.line(0));
        // -20 and thrice 3; then -20 and thrice 3, and thrice 3
        SlewRails two = Due.of("p10,3;p30,3;p0,0;");
        two.gang(0, 2);
        due.are("the second one by the SLEW of the first", Due.pegs(two, 3), 3, -3, 0);
        SlewRails three = Due.of("p10,3;p19,3;p0,0;");
        three.lay(1, 3);
        three.gang(0, 2);
        due.are("the first one by the SLEW of the second", Due.pegs(three, 3), 3, 0, 0);
    }

    private static void manyActs(Due due) {
        due.sentence("ACTS (24 at most are kept, of more the oldest is forgotten; each can be undone, the latest first):");
        for (int acts = 0; acts <= 49; acts++) {
            SlewRails x = Due.of("p60,3;p60,3;p60,3;");
            for (int v = 0; v < acts; v++) {
                x.read(0, v);
            }
            int kept = Math.min(24, acts);
            due.is("kept of " + acts, x.count(4), kept);
            for (int left = kept - 1; left >= 0; left--) {
                due.is("undo() of " + acts, x.undo(), left);
                int before = acts - (kept - left) - 1;
                due.is("VERSINE then", x.peg(0, 0), before < 0 ? 60 : before);
            }
            due.is("none of " + acts, x.undo(), STATE);
            due.is("none of " + acts + " again", x.undo(), STATE);
            due.is("count(4)", x.count(4), 0);
            x.lay(0, 1);
            due.is("one more can be undone", x.undo(), 0);
        }
        SlewRails y = Due.of("p60,3;p60,3;p60,3;");
        for (int v = 0; v < 30; v++) {
            y.read(0, v);
        }
        for (int k = 0; k < 20; k++) {
            y.undo();
        }
        for (int v = 40; v < 60; v++) {
            y.read(0, v);
        }
        due.is("24 again", y.count(4), 24);
        for (int k = 0; k < 20; k++) {
            y.undo();
        }
        due.is("behind those that were undone", y.peg(0, 0), 9);
        due.is("undo()", y.undo(), 3);
        due.is("VERSINE then", y.peg(0, 0), 8);
    }

    private static void gangsAreActs(Due due) {
        due.sentence("each SLEW that a GANG lays;");
        SlewRails x = Due.of("p0,3;p60,3;".repeat(6));
        x.gang(0, 12);
        due.is("12 of one GANG", x.count(4), 12);
        long[] once = Due.pegs(x, 3);
        x.gang(0, 11);
        due.is("11 more", x.count(4), 23);
        x.gang(11, 1);
        due.is("1 more", x.count(4), 24);
        x.gang(0, 12);
        due.is("12 more, of which the oldest are forgotten", x.count(4), 24);
        for (int left = 23; left >= 0; left--) {
            due.is("undo()", x.undo(), left);
        }
        due.are("SLEWS behind the first 12", Due.pegs(x, 3), once);
    }

    /** Each kind of ACT, one behind the other, then all undone. */
    private static void eachAct(Due due) {
        due.sentence("a SLEW is laid; all are WORKED IN; each SLEW that a GANG lays; a VERSINE is read anew; a BOUND is "
            + "another.");
        SlewRails x = Due.of("p10,3;s20,3;p30,3;");
        x.lay(0, 3);
        x.work();
        x.lay(1, -2);
        x.read(2, 0);
        x.bound(1, 2);
        x.gang(2, 1);
        due.are("VERSINES", Due.pegs(x, 0), 16, 17, 0);
        due.are("SLEWS", Due.pegs(x, 3), 0, -1, 3);
        due.is("the GANG's", x.undo(), 5);
        due.are("SLEWS", Due.pegs(x, 3), 0, -1, 0);
        due.is("the BOUND", x.undo(), 4);
        due.are("BOUNDS", Due.pegs(x, 1), 3, 3, 3);
        due.are("SLEWS, as they were with that BOUND", Due.pegs(x, 3), 0, -2, 0);
        due.is("the VERSINE that was read", x.undo(), 3);
        due.are("VERSINES", Due.pegs(x, 0), 16, 17, 30);
        due.is("the SLEW", x.undo(), 2);
        due.are("SLEWS", Due.pegs(x, 3), 0, 0, 0);
        due.is("what was WORKED IN", x.undo(), 1);
        due.are("VERSINES", Due.pegs(x, 0), 10, 20, 30);
        due.are("SLEWS", Due.pegs(x, 3), 3, 0, 0);
        due.is("the first SLEW", x.undo(), 0);
        due.are("SLEWS", Due.pegs(x, 3), 0, 0, 0);
        due.is("none", x.undo(), STATE);
        x.lay(0, 0);
        x.read(0, 10);
        x.bound(0, 3);
        due.is("the same again is an ACT, too", x.count(4), 3);
    }

    private static void noActs(Due due) {
        due.sentence("The latest ACT is undone: how many can be undone yet.");
        SlewRails x = Due.of("p10,3;s20,3;p30,3;");
        x.lay(0, 1);
        x.line(0);
        x.best(0);
        x.wrong(0);
        x.moment(1);
        x.chance(1, 1, 0);
        x.drawn(60, 1, 0);
        x.image(0);
        x.ask(0, 0);
        x.as(0, 0);
        x.row(0, 0, 3);
        x.tell(0, 0, 0);
        x.fits(0, 0, 3, 0);
        due.is("what is foretold, asked, told is no ACT", x.count(4), 1);
        due.is("undo()", x.undo(), 0);
        due.is("SLEW", x.peg(0, 3), 0);
        due.is("undo() is none itself", x.undo(), STATE);
        x.lay(0, 1);
        x.restore(0);
        due.is("none behind restore()", x.undo(), STATE);
    }

    private static void read(Due due) {
        due.sentence("A VERSINE is read anew (0 to 60): what it was.");
        SlewRails x = Due.of("p10,3;s20,3;e30,3;");
        int was = 30;
        for (int v = -2; v <= 62; v++) {
            boolean isRead = v >= 0 && v <= 60;
            due.is("read(2, " + v + ")", x.read(2, v), isRead ? was : BAD);
            was = isRead ? v : was;
            due.is("VERSINE", x.peg(2, 0), was);
        }
        SlewRails y = Due.of("e0,3;p60,3;e0,3;");
        y.lay(1, 3);
        y.work();
        due.is("what it was above 60", y.read(1, 0), 66);
        due.is("what it was below 0", y.read(0, 60), -3);
    }

    /** From BOUND 3 and each SLEW to each BOUND. */
    private static void bound(Due due) {
        due.sentence("A BOUND is another (0 to 3); a SLEW that is beyond REACH then becomes the nearest within: what BOUND "
            + "was.");
        for (int sort = 0; sort < 5; sort++) {
            int most = REACH[sort][3];
            for (int slew = -most; slew <= most; slew++) {
                for (int v = -1; v <= 4; v++) {
                    SlewRails x = Due.of(around(SORTS.charAt(sort), 3));
                    x.lay(1, slew);
                    boolean isBound = v >= 0 && v <= 3;
                    int reach = REACH[sort][isBound ? v : 3];
                    String call = SORTS.charAt(sort) + " slewed " + slew + ", bound(1, " + v + ")";
                    due.is(call, x.bound(1, v), isBound ? 3 : BAD);
                    due.is(call + ", BOUND", x.peg(1, 1), isBound ? v : 3);
                    due.is(call + ", REACH", x.peg(1, 2), reach);
                    due.is(call + ", SLEW", x.peg(1, 3), slew > reach ? reach : slew < -reach ? -reach : slew);
                    due.is(call + ", ACTS", x.count(4), isBound ? 2 : 1);
                }
            }
        }
        SlewRails x = Due.of("p10,3;p20,3;p30,3;");
        x.lay(0, 3);
        x.lay(1, -3);
        x.bound(1, 0);
        x.bound(1, 3);
        due.are("of the others none, and none comes back", Due.pegs(x, 3), 3, 0, 0);
    }

    private static void peg(Due due) {
        due.sentence("5 STEP (NONE of the last one), 6 WISH, 7 SECOND SUM.");
        SlewRails x = Due.of("p10,3;p20,3;p5,3;p13,3;");
        for (int what = -2; what <= 9; what++) {
            boolean isWhat = what >= 0 && what <= 7;
            due.holds("peg(0, " + what + ")", isWhat == (x.peg(0, what) != BAD));
            due.holds("peg(3, " + what + ")", isWhat == (x.peg(3, what) != BAD));
            due.holds("peg(3, " + what + ") is NONE", (what == 5) == (x.peg(3, what) == NONE));
            due.is("peg(4, " + what + ")", x.peg(4, what), BAD);
            due.is("peg(-1, " + what + ")", x.peg(-1, what), BAD);
        }
    }

    public static void main(String[] args) {
        Due due = new Due("SlewEdgesTest");
        reach(due);
        now(due);
        steps(due);
        workedIn(due);
        beyond(due);
        gangSlews(due);
        gangEnds(due);
        gangInTurn(due);
        manyActs(due);
        gangsAreActs(due);
        eachAct(due);
        noActs(due);
        read(due);
        bound(due);
        peg(due);
        due.end();
    }
}
