/** The edges of ROWS: section 1 of the document's terms, and promises 2 to 5. RefusedTest has the refusals. */
public final class RowEdgesTest {
    private static final int BAD = SlewRails.BAD;
    private static final int NULL = -1000011, PLACE = -1000012, SIZE = -1000014, STORE = -1000015;
    private static final int LEAST = Integer.MIN_VALUE, MOST = Integer.MAX_VALUE;
    private static final String RAIL = "p0,3;p0,3;p0,3;";

    private static void missingAtFirst(Due due) {
        due.sentence("ROWS 0 .. 7 are missing (at first), or have a LANE (0 bytes, 1 shorts, 2 ints) and 0 to 40 ITEMS, "
            + "0 at first.");
        SlewRails x = new SlewRails();
        for (int row = 0; row < 8; row++) {
            due.is("set(" + row + ", 0, 0) at first", x.set(row, 0, 0), NULL);
            due.is("drop(" + row + ") at first", x.drop(row), NULL);
        }
        due.is("no ROW at first", x.count(0), 0);
        for (int row = 0; row < 8; row++) {
            due.is("row(" + row + ", 0, 1)", x.row(row, 0, 1), 1);
            due.is("ROWS then", x.count(0), row + 1);
        }
        due.is("one that is there is not one more", x.row(3, 2, 40), 40);
        due.is("all ROWS", x.count(0), 8);
        due.is("row(8, 0, 1) of all", x.row(8, 0, 1), BAD);
        due.is("row(-1, 0, 1) of all", x.row(-1, 0, 1), BAD);
        for (int row = 0; row < 8; row++) {
            due.is("drop(" + row + ")", x.drop(row), row == 3 ? 40 : 1);
            due.is("ROWS then", x.count(0), 7 - row);
        }
    }

    private static void lanesAndSizes(Due due) {
        due.sentence("A ROW of a LANE with n ITEMS, in place of what is there: n.");
        SlewRails x = new SlewRails();
        for (int lane = -1; lane <= 3; lane++) {
            for (int n = 0; n <= 40; n++) {
                boolean isLane = lane >= 0 && lane <= 2;
                due.is("row(0, " + lane + ", " + n + ")", x.row(0, lane, n), isLane ? n : BAD);
            }
            due.is("row(0, " + lane + ", 41)", x.row(0, lane, 41), BAD);
        }
        for (int n = 0; n <= 40; n++) {
            x.row(1, 1, n);
            due.is("the last place of " + n, x.set(1, n - 1, 7), n == 0 ? PLACE : 7);
            due.is("the place behind it of " + n, x.set(1, n, 7), PLACE);
            due.is("the place ahead of all of " + n, x.set(1, -1, 7), PLACE);
            due.is("how many of " + n, x.drop(1), n);
        }
    }

    private static void zeroAtFirst(Due due) {
        due.sentence("0 to 40 ITEMS, 0 at first.");
        for (int lane = 0; lane <= 2; lane++) {
            SlewRails x = Due.of(RAIL);
            x.row(0, lane, 40);
            due.are("LANE " + lane, Due.items(x, 0, lane, 40), new long[40]);
            for (int i = 0; i < 40; i++) {
                x.set(0, i, i + 1);
            }
            due.is("ITEM 39", Due.item(x, 0, lane, 39), 40);
            x.row(0, lane, 1);
            due.is("the one ITEM of another", Due.item(x, 0, lane, 0), 0);
            x.row(0, lane, 40);
            due.are("another of 40", Due.items(x, 0, lane, 40), new long[40]);
        }
        SlewRails y = Due.of(RAIL);
        y.row(0, 0, 3);
        y.set(0, 2, 9);
        due.is("found SIZE", y.row(0, 0, -1), SIZE);
        due.are("as it was behind SIZE", Due.items(y, 0, 0, 3), 0, 0, 9);
        y.drop(0);
        y.row(0, 0, 3);
        due.are("0 behind drop()", Due.items(y, 0, 0, 3), 0, 0, 0);
        y.row(0, 2, 3);
        y.row(1, 0, 3);
        due.is("another LANE in its place", y.copy(0, 0, 1, 0, 1), STORE);
    }

    private static void lowestBits(Due due) {
        due.sentence("ITEM i becomes v, its lowest bits, as many as the LANE has: what it is then.");
        long[][] bytes = {{-128, -128}, {-129, 127}, {127, 127}, {128, -128}, {-1, -1}, {255, -1}, {256, 0}, {257, 1},
            {-256, 0}, {-255, 1}, {32768, 0}, {65535, -1}, {LEAST, 0}, {MOST, -1}, {0, 0}};
        long[][] shorts = {{-32768, -32768}, {-32769, 32767}, {32767, 32767}, {32768, -32768}, {65535, -1}, {65536, 0},
            {65537, 1}, {-65536, 0}, {128, 128}, {256, 256}, {LEAST, 0}, {MOST, -1}, {0, 0}};
        long[][] ints = {{LEAST, LEAST}, {MOST, MOST}, {65536, 65536}, {-32769, -32769}, {256, 256}, {0, 0}};
        lowestBitsOf(due, 0, bytes);
        lowestBitsOf(due, 1, shorts);
        lowestBitsOf(due, 2, ints);
        SlewRails x = Due.of(RAIL);
        x.row(0, 0, 2);
        due.is("what it is then", x.set(0, 1, 256 + 7), 7);
        due.are("it is so, and no other", Due.items(x, 0, 0, 2), 0, 7);
        x.row(0, 1, 2);
        due.is("what it is then", x.set(0, 0, 65536 * 3 + 9), 9);
        due.are("it is so, and no other", Due.items(x, 0, 1, 2), 9, 0);
    }

    private static void lowestBitsOf(Due due, int lane, long[][] pairs) {
        SlewRails x = new SlewRails();
        x.row(5, lane, 40);
        for (long[] pair : pairs) {
            for (int i : new int[] {0, 39}) {
                due.is("LANE " + lane + " set(5, " + i + ", " + pair[0] + ")", x.set(5, i, (int) pair[0]), pair[1]);
                due.is("status()", x.status(), 0);
            }
        }
    }

    private static SlewRails numbered(int lane, int n) {
        SlewRails x = Due.of(RAIL);
        x.row(0, lane, n);
        for (int i = 0; i < n; i++) {
            x.set(0, i, i + 1);
        }
        return x;
    }

    private static void copies(Due due) {
        due.sentence("n ITEMS of a from i on come to b from j on, as they were ahead: n.");
        for (int lane = 0; lane <= 2; lane++) {
            SlewRails x = numbered(lane, 6);
            due.is("one onward", x.copy(0, 0, 0, 1, 5), 5);
            due.are("as they were ahead", Due.items(x, 0, lane, 6), 1, 1, 2, 3, 4, 5);
            x = numbered(lane, 6);
            due.is("one back", x.copy(0, 1, 0, 0, 5), 5);
            due.are("as they were ahead", Due.items(x, 0, lane, 6), 2, 3, 4, 5, 6, 6);
            x = numbered(lane, 6);
            due.is("all to where they are", x.copy(0, 0, 0, 0, 6), 6);
            due.are("as they were ahead", Due.items(x, 0, lane, 6), 1, 2, 3, 4, 5, 6);
            x = numbered(lane, 6);
            x.row(1, lane, 3);
            due.is("all of b, to its end, of a to its end", x.copy(0, 3, 1, 0, 3), 3);
            due.are("b", Due.items(x, 1, lane, 3), 4, 5, 6);
            due.is("the last of a to the last of b", x.copy(0, 5, 1, 2, 1), 1);
            due.is("the first of a to the first of b", x.copy(0, 0, 1, 0, 1), 1);
            due.are("b", Due.items(x, 1, lane, 3), 1, 5, 6);
            due.is("none from end to end", x.copy(0, 6, 1, 3, 0), 0);
            due.is("none from the first to the first", x.copy(0, 0, 1, 0, 0), 0);
            due.are("b is as it was", Due.items(x, 1, lane, 3), 1, 5, 6);
            due.are("a is as it was", Due.items(x, 0, lane, 6), 1, 2, 3, 4, 5, 6);
        }
        SlewRails x = numbered(1, 40);
        x.row(6, 1, 40);
        due.is("all 40", x.copy(0, 0, 6, 0, 40), 40);
        due.is("the first", Due.item(x, 6, 1, 0), 1);
        due.is("the last", Due.item(x, 6, 1, 39), 40);
        due.is("41", x.copy(0, 0, 6, 0, 41), PLACE);
    }

    private static void emptyRows(Due due) {
        due.sentence("PLACE (no such place of a ROW)");
        for (int lane = 0; lane <= 2; lane++) {
            SlewRails x = Due.of(RAIL);
            x.row(0, lane, 0);
            x.row(1, lane, 0);
            x.row(2, lane, 1);
            due.is("an empty ROW is there", x.count(0), 3);
            due.is("set", x.set(0, 0, 0), PLACE);
            due.is("none of an empty ROW to itself", x.copy(0, 0, 0, 0, 0), 0);
            due.is("none of an empty ROW to an empty one", x.copy(0, 0, 1, 0, 0), 0);
            due.is("none of an empty ROW to the end of another", x.copy(0, 0, 2, 1, 0), 0);
            due.is("one of an empty ROW", x.copy(0, 0, 2, 0, 1), PLACE);
            due.is("one to an empty ROW", x.copy(2, 0, 0, 0, 1), PLACE);
            due.is("tell to an empty ROW", x.tell(0, 0, 0), 0);
            due.is("tell behind an empty ROW", x.tell(0, 0, 1), PLACE);
            due.is("fits of an empty ROW", x.fits(0, 0, 1, 0), PLACE);
            due.is("drop of an empty ROW", x.drop(0), 0);
            due.is("it is missing then", x.drop(0), NULL);
        }
    }

    private static void dropped(Due due) {
        due.sentence("A ROW is missing from now on: how many ITEMS it had.");
        SlewRails x = Due.of(RAIL);
        x.row(0, 0, 40);
        x.row(7, 0, 2);
        due.is("drop(0)", x.drop(0), 40);
        due.is("ROWS", x.count(0), 1);
        due.is("set", x.set(0, 0, 1), NULL);
        due.is("copy of it", x.copy(0, 0, 7, 0, 1), NULL);
        due.is("copy to it", x.copy(7, 0, 0, 0, 1), NULL);
        due.is("tell", x.tell(0, 0, 0), NULL);
        due.is("fits", x.fits(0, 0, 1, 0), NULL);
        due.is("drop(0) again", x.drop(0), NULL);
        due.is("drop(7), the other one", x.drop(7), 2);
        due.is("no ROW", x.count(0), 0);
        due.is("it may come again", x.row(0, 2, 1), 1);
        due.is("set then", x.set(0, 0, LEAST), LEAST);
    }

    /** A RAIL, read or brought back, is no matter of ROWS; and a ROW is none of the RAIL's. */
    private static void apart(Due due) {
        due.sentence("ITEM i becomes v");
        SlewRails x = numbered(0, 3);
        Due.read(x, "p5,0;p6,0;p7,0;");
        x.image(0);
        x.restore(0);
        due.are("ITEMS stay with another RAIL", Due.items(x, 0, 0, 3), 1, 2, 3);
        x.tell(0, 0, 0);
        x.set(0, 0, 60);
        due.is("VERSINE stays with another ITEM", x.peg(0, 0), 5);
    }

    public static void main(String[] args) {
        Due due = new Due("RowEdgesTest");
        missingAtFirst(due);
        lanesAndSizes(due);
        zeroAtFirst(due);
        lowestBits(due);
        copies(due);
        emptyRows(due);
        dropped(due);
        apart(due);
        due.end();
    }
}
