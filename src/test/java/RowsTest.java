/** Promises 2 to 5: row, set, copy, drop. */
public final class RowsTest {
    private static final int BAD = SlewRails.BAD, NULL = -1000011, PLACE = -1000012, SIZE = -1000014, STORE = -1000015;
    private static final int LEAST = Integer.MIN_VALUE, MOST = Integer.MAX_VALUE;

    private static void row(Due due) {
        SlewRails x = Due.of("p1,3;p2,3;p3,3;");
        due.is("row(0, 0, 0)", x.row(0, 0, 0), 0);
        due.is("row(7, 2, 40)", x.row(7, 2, 40), 40);
        due.is("count(0)", x.count(0), 2);
        due.is("row(-1, 0, 1)", x.row(-1, 0, 1), BAD);
        due.is("row(8, 0, 1)", x.row(8, 0, 1), BAD);
        due.is("row(0, -1, 1)", x.row(0, -1, 1), BAD);
        due.is("row(0, 3, 1)", x.row(0, 3, 1), BAD);
        due.is("row(0, 0, 41)", x.row(0, 0, 41), BAD);
        due.is("row(0, 0, MOST)", x.row(0, 0, MOST), BAD);
        due.is("row(0, 3, -1): BAD ahead of SIZE", x.row(0, 3, -1), BAD);
        due.is("row(7, 0, -1)", x.row(7, 0, -1), SIZE);
        due.is("row(7, 0, LEAST)", x.row(7, 0, LEAST), SIZE);
        due.is("what is found changes nothing: drop(7)", x.drop(7), 40);
        x.row(1, 2, 3);
        x.set(1, 0, 9);
        due.is("set, then", Due.item(x, 1, 2, 0), 9);
        x.row(1, 2, 2);
        due.are("a ROW in place of another is 0", Due.items(x, 1, 2, 2), 0, 0);
        due.is("and has its own size", x.set(1, 2, 1), PLACE);
        x.set(1, 1, 5);
        x.drop(1);
        x.row(1, 2, 3);
        due.are("a ROW behind drop is 0", Due.items(x, 1, 2, 3), 0, 0, 0);
    }

    private static void set(Due due) {
        SlewRails x = new SlewRails();
        x.row(0, 0, 2);
        x.row(1, 1, 2);
        x.row(2, 2, 40);
        due.is("byte 127", x.set(0, 0, 127), 127);
        due.is("byte 128", x.set(0, 0, 128), -128);
        due.is("byte 255", x.set(0, 1, 255), -1);
        due.is("byte 256", x.set(0, 1, 256), 0);
        due.is("byte LEAST", x.set(0, 1, LEAST), 0);
        due.is("byte MOST", x.set(0, 1, MOST), -1);
        due.is("short 32767", x.set(1, 0, 32767), 32767);
        due.is("short 32768", x.set(1, 0, 32768), -32768);
        due.is("short -32769", x.set(1, 1, -32769), 32767);
        due.is("int LEAST", x.set(2, 0, LEAST), LEAST);
        due.is("int MOST", x.set(2, 39, MOST), MOST);
        due.is("set(2, 40, 0)", x.set(2, 40, 0), PLACE);
        due.is("set(2, -1, 0)", x.set(2, -1, 0), PLACE);
        due.is("set(2, LEAST, 0)", x.set(2, LEAST, 0), PLACE);
        due.is("set(2, MOST, 0)", x.set(2, MOST, 0), PLACE);
        due.is("set(3, 0, 0)", x.set(3, 0, 0), NULL);
        due.is("set(3, -1, 0): NULL ahead of PLACE", x.set(3, -1, 0), NULL);
        due.is("set(-1, 0, 0)", x.set(-1, 0, 0), BAD);
        due.is("set(8, 0, 0)", x.set(8, 0, 0), BAD);
        x.row(4, 0, 0);
        due.is("an empty ROW has no place", x.set(4, 0, 1), PLACE);
    }

    private static SlewRails counted() {
        SlewRails x = Due.of("p1,3;p2,3;p3,3;");
        x.row(0, 0, 5);
        for (int i = 0; i < 5; i++) {
            x.set(0, i, i + 1);
        }
        x.row(1, 0, 3);
        x.row(2, 1, 5);
        return x;
    }

    private static void copy(Due due) {
        SlewRails x = counted();
        due.is("copy onward within itself", x.copy(0, 0, 0, 1, 4), 4);
        due.are("as they were ahead", Due.items(x, 0, 0, 5), 1, 1, 2, 3, 4);
        x = counted();
        due.is("copy back within itself", x.copy(0, 2, 0, 0, 3), 3);
        due.are("as they were ahead", Due.items(x, 0, 0, 5), 3, 4, 5, 4, 5);
        x = counted();
        due.is("copy to another", x.copy(0, 3, 1, 1, 2), 2);
        due.are("it came there", Due.items(x, 1, 0, 3), 0, 4, 5);
        due.are("and stays here", Due.items(x, 0, 0, 5), 1, 2, 3, 4, 5);
        due.is("none from the end", x.copy(0, 5, 1, 3, 0), 0);
        due.is("i beyond the end", x.copy(0, 6, 1, 0, 0), PLACE);
        due.is("j beyond the end", x.copy(0, 0, 1, 4, 0), PLACE);
        due.is("i below 0", x.copy(0, -1, 1, 0, 1), PLACE);
        due.is("j below 0", x.copy(0, 0, 1, -1, 1), PLACE);
        due.is("n below 0", x.copy(0, 0, 1, 0, -1), PLACE);
        due.is("too many of a", x.copy(0, 4, 1, 0, 2), PLACE);
        due.is("too many for b", x.copy(0, 0, 1, 2, 2), PLACE);
        due.is("sums that wrap", x.copy(0, MOST, 1, MOST, MOST), PLACE);
        due.is("sums that wrap, n", x.copy(0, 1, 1, 1, MOST), PLACE);
        due.are("what is found changes nothing", Due.items(x, 1, 0, 3), 0, 4, 5);
        due.is("two LANES", x.copy(0, 0, 2, 0, 1), STORE);
        due.is("two LANES, of none", x.copy(0, 0, 2, 0, 0), STORE);
        due.is("STORE ahead of PLACE", x.copy(0, -1, 2, 0, 1), STORE);
        due.is("NULL ahead of STORE, a", x.copy(3, 0, 2, 0, 1), NULL);
        due.is("NULL ahead of PLACE, b", x.copy(0, -1, 3, 0, 1), NULL);
        due.is("BAD a", x.copy(8, 0, 0, 0, 1), BAD);
        due.is("BAD b ahead of NULL", x.copy(3, 0, -1, 0, 1), BAD);
    }

    private static void drop(Due due) {
        SlewRails x = counted();
        due.is("drop(0)", x.drop(0), 5);
        due.is("drop(0) again", x.drop(0), NULL);
        due.is("count(0)", x.count(0), 2);
        due.is("drop(-1)", x.drop(-1), BAD);
        due.is("drop(8)", x.drop(8), BAD);
        x.row(0, 2, 0);
        due.is("an empty ROW is there", x.count(0), 3);
        due.is("drop of an empty one", x.drop(0), 0);
        due.is("set of a dropped one", x.set(0, 0, 0), NULL);
    }

    public static void main(String[] args) {
        Due due = new Due("RowsTest");
        row(due);
        set(due);
        copy(due);
        drop(due);
        due.end();
    }
}
