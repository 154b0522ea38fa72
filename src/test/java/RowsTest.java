/** Promises 2 to 5, and what 34 and 35 tell of rows. */
public final class RowsTest {
    public static void main(String[] args) {
        row();
        set();
        copy();
        copyRefused();
        drop();
        status();
        Check.end();
    }

    private static void row() {
        BarkNames x = new BarkNames();
        Check.due("row(0, 0, 0)", x.row(0, 0, 0), 0);
        Check.due("row(7, 2, 40)", x.row(7, 2, 40), 40);
        Check.due("count(0)", x.count(0), 2);
        Check.due("row(8, 0, 1)", x.row(8, 0, 1), Check.BAD);
        Check.due("row(-1, 0, 1)", x.row(-1, 0, 1), Check.BAD);
        Check.due("row(1, -1, 1)", x.row(1, -1, 1), Check.BAD);
        Check.due("row(1, 3, 1)", x.row(1, 3, 1), Check.BAD);
        Check.due("row(1, 0, 41)", x.row(1, 0, 41), Check.BAD);
        Check.due("row(8, 0, -1): BAD ahead of SIZE", x.row(8, 0, -1), Check.BAD);
        Check.due("row(1, 0, -1)", x.row(1, 0, -1), Check.SIZE);
        Check.due("row(1, 0, MIN)", x.row(1, 0, Integer.MIN_VALUE), Check.SIZE);
        Check.due("count(0), nothing came", x.count(0), 2);
        x.set(7, 39, 5);
        Check.due("row(7, 0, -1)", x.row(7, 0, -1), Check.SIZE);
        Check.due("set(7, 39, 300): as it was", x.set(7, 39, 300), 300);
        Check.due("row(7, 1, 40), in place of it", x.row(7, 1, 40), 40);
        x.row(0, 2, 1);
        x.set(0, 0, 1);
        x.row(0, 2, 2);
        Check.read(x, "w2;p10,9;c0,0,0,1;");
        Check.due("new items are 0: healed in a year", x.gaps(0, 0, 0, 2), 2);
    }

    private static void set() {
        BarkNames x = new BarkNames();
        Check.due("set of a missing row", x.set(3, 0, 1), Check.NULL);
        x.row(0, 0, 3);
        x.row(1, 1, 3);
        x.row(2, 2, 3);
        Check.due("set(0, 0, 127)", x.set(0, 0, 127), 127);
        Check.due("set(0, 0, 128)", x.set(0, 0, 128), -128);
        Check.due("set(0, 2, 256)", x.set(0, 2, 256), 0);
        Check.due("set(0, 2, -129)", x.set(0, 2, -129), 127);
        Check.due("set(1, 0, 32768)", x.set(1, 0, 32768), -32768);
        Check.due("set(1, 2, -32769)", x.set(1, 2, -32769), 32767);
        Check.due("set(1, 2, 200)", x.set(1, 2, 200), 200);
        Check.due("set(2, 0, MIN)", x.set(2, 0, Integer.MIN_VALUE), Integer.MIN_VALUE);
        Check.due("set(2, 2, MAX)", x.set(2, 2, Integer.MAX_VALUE), Integer.MAX_VALUE);
        Check.due("set(0, 3, 1)", x.set(0, 3, 1), Check.PLACE);
        Check.due("set(0, -1, 1)", x.set(0, -1, 1), Check.PLACE);
        Check.due("set(0, MAX, 1)", x.set(0, Integer.MAX_VALUE, 1), Check.PLACE);
        Check.due("set(0, MIN, 1)", x.set(0, Integer.MIN_VALUE, 1), Check.PLACE);
        Check.due("set(8, 0, 1)", x.set(8, 0, 1), Check.BAD);
        Check.due("set(-1, 0, 1)", x.set(-1, 0, 1), Check.BAD);
    }

    /** What stands in row 0 at i, told by the girth of a dead tree. */
    private static boolean has(BarkNames x, int row, int i, int girth) {
        Check.read(x, "w2;d" + girth + ",0;");
        return x.which(0, row, i, 1, 0) != 0;
    }

    private static void copy() {
        BarkNames x = new BarkNames();
        Check.fill(x, 10, 11, 12, 13, 14);
        Check.due("copy(0, 0, 0, 1, 4)", x.copy(0, 0, 0, 1, 4), 4);
        int[] behind = {10, 10, 11, 12, 13};
        for (int i = 0; i < behind.length; i++) {
            Check.due("item " + i + " behind", has(x, 0, i, behind[i]) ? 1 : 0, 1);
        }
        Check.due("copy(0, 2, 0, 0, 3)", x.copy(0, 2, 0, 0, 3), 3);
        int[] ahead = {11, 12, 13, 12, 13};
        for (int i = 0; i < ahead.length; i++) {
            Check.due("item " + i + " ahead", has(x, 0, i, ahead[i]) ? 1 : 0, 1);
        }
        x.row(1, 2, 2);
        Check.due("copy(0, 3, 1, 0, 2)", x.copy(0, 3, 1, 0, 2), 2);
        Check.due("item 1 of row 1", has(x, 1, 1, 13) ? 1 : 0, 1);
        Check.due("copy of none at the ends", x.copy(0, 5, 1, 2, 0), 0);
    }

    private static void copyRefused() {
        BarkNames x = new BarkNames();
        x.row(0, 0, 4);
        x.row(1, 0, 2);
        x.row(2, 1, 4);
        Check.due("copy(8, 0, 0, 0, 1)", x.copy(8, 0, 0, 0, 1), Check.BAD);
        Check.due("copy(0, 0, -1, 0, 1)", x.copy(0, 0, -1, 0, 1), Check.BAD);
        Check.due("copy(0, 0, 8, 0, 1)", x.copy(0, 0, 8, 0, 1), Check.BAD);
        Check.due("copy(3, 0, 9, 0, 1): BAD ahead of NULL", x.copy(3, 0, 9, 0, 1), Check.BAD);
        Check.due("copy from none", x.copy(3, 0, 0, 0, 1), Check.NULL);
        Check.due("copy to none", x.copy(0, 0, 3, 0, 1), Check.NULL);
        Check.due("NULL ahead of PLACE", x.copy(0, -1, 3, 0, 1), Check.NULL);
        Check.due("STORE", x.copy(0, 0, 2, 0, 1), Check.STORE);
        Check.due("STORE of none", x.copy(0, 0, 2, 0, 0), Check.STORE);
        Check.due("STORE ahead of PLACE", x.copy(0, 9, 2, 0, 1), Check.STORE);
        Check.due("i below 0", x.copy(0, -1, 1, 0, 1), Check.PLACE);
        Check.due("j below 0", x.copy(0, 0, 1, -1, 1), Check.PLACE);
        Check.due("n below 0", x.copy(0, 0, 1, 0, -1), Check.PLACE);
        Check.due("n far below 0", x.copy(0, 0, 1, 0, Integer.MIN_VALUE), Check.PLACE);
        Check.due("beyond a's end", x.copy(0, 3, 1, 0, 2), Check.PLACE);
        Check.due("beyond b's end", x.copy(0, 0, 1, 1, 2), Check.PLACE);
        Check.due("none beyond a's end", x.copy(0, 5, 1, 0, 0), Check.PLACE);
        Check.due("none beyond b's end", x.copy(0, 0, 1, 3, 0), Check.PLACE);
        Check.due("i and n that wrap round", x.copy(0, Integer.MAX_VALUE, 1, 0, Integer.MAX_VALUE), Check.PLACE);
        Check.due("n that wraps round", x.copy(0, 1, 1, 1, Integer.MAX_VALUE), Check.PLACE);
    }

    private static void drop() {
        BarkNames x = new BarkNames();
        x.row(4, 1, 17);
        Check.due("drop(4)", x.drop(4), 17);
        Check.due("drop(4) again", x.drop(4), Check.NULL);
        Check.due("set of it", x.set(4, 0, 0), Check.NULL);
        Check.due("count(0)", x.count(0), 0);
        x.row(0, 0, 0);
        Check.due("drop of an empty row", x.drop(0), 0);
        Check.due("drop(8)", x.drop(8), Check.BAD);
        Check.due("drop(-1)", x.drop(-1), Check.BAD);
    }

    private static void status() {
        BarkNames x = Check.of("w2;d10,0;c0,0,0,5;");
        Check.due("status() at first", x.status(), 0);
        x.row(0, 0, -1);
        Check.due("status() after SIZE", x.status(), 4);
        x.row(9, 0, 1);
        x.set(9, 0, 1);
        x.copy(9, 0, 0, 0, 0);
        x.drop(9);
        x.gaps(0, 9, 0, 1);
        x.which(0, 9, 0, 1, 0);
        x.as(0, 6);
        Check.due("status() after BAD", x.status(), 4);
        x.years(1);
        x.cut(0, 0, 0, 1);
        x.image(0);
        x.ask(0, 0);
        Check.due("status() after calls without a row", x.status(), 4);
        x.row(0, 2, 2);
        Check.due("status() after row", x.status(), 0);
        x.set(0, 2, 1);
        Check.due("status() after set, PLACE", x.status(), 2);
        x.set(0, 1, 1);
        Check.due("status() after set", x.status(), 0);
        x.copy(0, 0, 1, 0, 0);
        Check.due("status() after copy, NULL", x.status(), 1);
        x.copy(0, 0, 0, 1, 1);
        Check.due("status() after copy", x.status(), 0);
        x.row(1, 1, 2);
        x.copy(0, 0, 1, 0, 0);
        Check.due("status() after copy, STORE", x.status(), 5);
        x.drop(1);
        Check.due("status() after drop", x.status(), 0);
        x.drop(1);
        Check.due("status() after drop, NULL", x.status(), 1);
        x.gaps(0, 0, 0, 2);
        Check.due("status() after gaps", x.status(), 0);
        x.gaps(0, 0, 1, 2);
        Check.due("status() after gaps, PLACE", x.status(), 2);
        x.which(0, 0, 0, 2, 1);
        Check.due("status() after which", x.status(), 0);
        x.which(0, 7, 0, 2, 1);
        Check.due("status() after which, NULL", x.status(), 1);
        x.as(0, 4);
        Check.due("status() after as", x.status(), 0);
        x.as(0, 1);
        Check.due("status() after as, KIND", x.status(), 3);
    }
}
