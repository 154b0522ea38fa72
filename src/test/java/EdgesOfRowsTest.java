/** The edges that the document names for refusals, findings and rows (promises 1 to 5, and 35), a sentence at a time. */
public final class EdgesOfRowsTest {
    private static final int MIN = Integer.MIN_VALUE, MAX = Integer.MAX_VALUE;

    public static void main(String[] args) {
        numbersFromZero();
        findingsAsNumbers();
        firstRefusalThatFits();
        firstFindingInTime();
        rowsMissing();
        lanes();
        items();
        rowInPlace();
        rowRefused();
        lowestBits();
        setRefused();
        copyAsAhead();
        copyToTheEnds();
        copyBelowZero();
        copyBeyondAnEnd();
        copyRefused();
        dropped();
        dropRefused();
        statusOfNone();
        statusNotOfRefused();
        statusOfTheLatest();
        Check.end();
    }

    /** Whether a row is there, by a copy of none of its items. */
    private static int there(BarkNames x, int row) {
        return x.copy(row, 0, row, 0, 0);
    }

    private static void numbersFromZero() {
        Check.says("Numbers go from 0 on.");
        BarkNames x = Check.of("w2;d10,0;c0,0,0,1;");
        Check.due("row 0", x.row(0, 0, 1), 1);
        Check.due("item 0", x.set(0, 0, 1), 1);
        Check.due("item 1 of 1", x.set(0, 1, 1), Check.PLACE);
        Check.due("tree 0", x.tree(0, 0), 10);
        Check.due("tree 1 of 1", x.tree(1, 0), Check.BAD);
        Check.due("cut 0", x.cutHas(0, 3), 1);
        Check.due("cut 1 of 1", x.cutHas(1, 3), Check.BAD);
    }

    private static void findingsAsNumbers() {
        Check.says("-1000010 less 1 NULL (a ROW that is missing), 2 PLACE (no such place of a ROW), "
                + "3 KIND (a TREE that is not that), 4 SIZE (fewer than none), 5 STORE (ROWS of two LANES)");
        BarkNames x = Check.of("w2;d10,0;");
        Check.due("NULL", x.drop(0), -1000011);
        Check.due("its status", x.status(), 1);
        x.row(0, 0, 1);
        Check.due("PLACE", x.set(0, 1, 0), -1000012);
        Check.due("its status", x.status(), 2);
        Check.due("KIND", x.as(0, 1), -1000013);
        Check.due("its status", x.status(), 3);
        Check.due("SIZE", x.row(0, 0, -1), -1000014);
        Check.due("its status", x.status(), 4);
        x.row(1, 1, 1);
        Check.due("STORE", x.copy(0, 0, 1, 0, 1), -1000015);
        Check.due("its status", x.status(), 5);
    }

    private static void firstRefusalThatFits() {
        Check.says("Refusals are answers, the first of these that fits");
        BarkNames x = new BarkNames();
        Check.due("row: BAD, SIZE", x.row(8, 0, -1), Check.BAD);
        Check.due("row: BAD by its LANE, SIZE", x.row(0, 3, -1), Check.BAD);
        Check.due("set: BAD, PLACE", x.set(8, -1, 0), Check.BAD);
        Check.due("copy: BAD by b, NULL of a", x.copy(0, 0, 8, 0, 1), Check.BAD);
        Check.due("image: BAD, STATE", x.image(2), Check.BAD);
        Check.due("restore: BAD, STATE", x.restore(2), Check.BAD);
        Check.read(x, "w2;p10,9;c0,0,0,1;c0,0,1,1;c0,0,2,1;c0,0,3,1;c0,0,4,1;c0,0,5,1;c0,0,6,1;c0,0,7,1;");
        Check.due("cut: STATE, FULL", x.cut(0, 0, 7, 1), Check.STATE);
        Check.due("cut: BAD, STATE, FULL", x.cut(0, 0, 7, 0), Check.BAD);
        Check.due("cut: FULL alone", x.cut(0, 0, 8, 1), Check.FULL);
        x.years(1);
        Check.due("anew: BAD, STATE", x.anew(0, 0), Check.BAD);
        Check.due("anew: STATE alone", x.anew(0, 1), Check.STATE);
        Check.due("gaps: BAD, NULL", x.gaps(8, 0, 0, 1), Check.BAD);
        Check.due("which: BAD, NULL", x.which(1, 0, 0, 1, 0), Check.BAD);
        Check.due("as: BAD, KIND", x.as(1, 1), Check.BAD);
    }

    private static void firstFindingInTime() {
        Check.says("then FINDINGS, of several the first in time");
        BarkNames x = Check.of("w2;d10,0;c0,0,0,1;");
        x.row(0, 0, 1);
        x.row(1, 1, 1);
        Check.due("set: NULL, PLACE", x.set(2, -1, 0), Check.NULL);
        Check.due("copy: NULL of a, PLACE", x.copy(2, -1, 0, 0, 1), Check.NULL);
        Check.due("copy: NULL of b, PLACE", x.copy(0, -1, 2, 0, 1), Check.NULL);
        Check.due("copy: STORE, PLACE", x.copy(0, -1, 1, 0, 1), Check.STORE);
        Check.due("copy: STORE, PLACE by n", x.copy(0, 0, 1, 0, -1), Check.STORE);
        Check.due("gaps: NULL, PLACE", x.gaps(0, 2, -1, 1), Check.NULL);
        Check.due("which: NULL, PLACE", x.which(0, 2, 99, 1, 0), Check.NULL);
    }

    private static void rowsMissing() {
        Check.says("ROWS 0 .. 7 are missing (at first)");
        BarkNames x = new BarkNames();
        for (int row = 0; row <= 7; row++) {
            Check.due("row " + row, x.set(row, 0, 0), Check.NULL);
        }
        Check.due("row -1", x.set(-1, 0, 0), Check.BAD);
        Check.due("row 8", x.set(8, 0, 0), Check.BAD);
        Check.due("how many are there", x.count(0), 0);
    }

    private static void lanes() {
        Check.says("have a LANE (0 bytes, 1 shorts, 2 ints)");
        int[] kept = {0x7F, 0x7F7F, 0x7F7F7F7F};
        BarkNames x = new BarkNames();
        for (int lane = 0; lane <= 2; lane++) {
            x.row(lane, lane, 1);
            Check.due("what LANE " + lane + " keeps", x.set(lane, 0, 0x7F7F7F7F), kept[lane]);
        }
        Check.due("LANE -1", x.row(0, -1, 1), Check.BAD);
        Check.due("LANE 3", x.row(0, 3, 1), Check.BAD);
    }

    private static void items() {
        Check.says("0 to 40 ITEMS, 0 at first");
        BarkNames x = Check.of("w2;p10,9;c0,0,0,1;");
        Check.due("0 ITEMS", x.row(0, 0, 0), 0);
        Check.due("no ITEM of none", x.set(0, 0, 0), Check.PLACE);
        Check.due("40 ITEMS", x.row(1, 0, 40), 40);
        Check.due("41 ITEMS", x.row(2, 0, 41), Check.BAD);
        for (int i = 0; i < 40; i++) {
            // a CUT of DEPTH 1 is HEALED in a year: 0
            Check.due("ITEM " + i, x.gaps(0, 1, i, 1), 1 << 1);
        }
        Check.due("ITEM 40", x.gaps(0, 1, 40, 1), Check.PLACE);
    }

    private static void rowInPlace() {
        Check.says("A ROW of a LANE with n ITEMS, in place of what is there: n.");
        BarkNames x = Check.of("w2;p10,9;c0,0,0,1;");
        x.row(0, 2, 3);
        x.set(0, 0, 7);
        x.set(0, 2, 7);
        Check.due("fewer", x.row(0, 0, 2), 2);
        Check.due("the third is gone", x.set(0, 2, 1), Check.PLACE);
        Check.due("of bytes now", x.set(0, 1, 128), -128);
        Check.due("the first is 0 anew", x.gaps(0, 0, 0, 1), 1 << 1);
        Check.due("more", x.row(0, 1, 3), 3);
        Check.due("all are 0 anew", x.gaps(0, 0, 0, 3), 1 << 1);
        Check.due("it is one ROW still", x.count(0), 1);
        Check.due("none", x.row(0, 1, 0), 0);
        Check.due("a ROW of none is there", x.count(0), 1);
    }

    private static void rowRefused() {
        Check.says("BAD: ROW, LANE, n above 40; SIZE.");
        BarkNames x = new BarkNames();
        Check.due("ROW -1", x.row(-1, 0, 1), Check.BAD);
        Check.due("ROW 8", x.row(8, 0, 1), Check.BAD);
        Check.due("ROW far below", x.row(MIN, 0, 1), Check.BAD);
        Check.due("ROW far above", x.row(MAX, 0, 1), Check.BAD);
        Check.due("LANE far below", x.row(0, MIN, 1), Check.BAD);
        Check.due("LANE far above", x.row(0, MAX, 1), Check.BAD);
        Check.due("n far above", x.row(0, 0, MAX), Check.BAD);
        Check.due("n -1", x.row(0, 0, -1), Check.SIZE);
        Check.due("n far below", x.row(0, 0, MIN), Check.SIZE);
        Check.due("no ROW came", x.count(0), 0);
    }

    private static void lowestBits() {
        Check.says("ITEM i becomes v, its lowest bits, as many as the LANE has (read with their sign): what it is then.");
        BarkNames x = new BarkNames();
        int[] told = {127, 128, 255, 256, -128, -129, 32767, 32768, 65535, 65536, -32768, -32769, MIN, MAX};
        int[] bytes = {127, -128, -1, 0, -128, 127, -1, 0, -1, 0, 0, -1, 0, -1};
        int[] shorts = {127, 128, 255, 256, -128, -129, 32767, -32768, -1, 0, -32768, 32767, 0, -1};
        for (int lane = 0; lane < 3; lane++) {
            x.row(0, lane, 1);
            for (int i = 0; i < told.length; i++) {
                int due = lane == 0 ? bytes[i] : lane == 1 ? shorts[i] : told[i];
                Check.due("LANE " + lane + ", " + told[i], x.set(0, 0, told[i]), due);
            }
        }
    }

    private static void setRefused() {
        Check.says("BAD: ROW; NULL; PLACE.");
        BarkNames x = new BarkNames();
        x.row(0, 2, 40);
        Check.due("ROW -1", x.set(-1, 0, 0), Check.BAD);
        Check.due("ROW 8", x.set(8, 0, 0), Check.BAD);
        Check.due("ROW far above", x.set(MAX, 0, 0), Check.BAD);
        Check.due("a ROW that is missing", x.set(7, 0, 0), Check.NULL);
        Check.due("place 39", x.set(0, 39, 1), 1);
        Check.due("place 40", x.set(0, 40, 1), Check.PLACE);
        Check.due("place -1", x.set(0, -1, 1), Check.PLACE);
        Check.due("place far below", x.set(0, MIN, 1), Check.PLACE);
        Check.due("place far above", x.set(0, MAX, 1), Check.PLACE);
    }

    /** Whether three ITEMS of ROW 0 are as the DEPTHS of a CUT that loses 1 each year, from a first one on. */
    private static void goes(BarkNames x, String from, int i, int first) {
        Check.due(from, x.gaps(0, 0, i, 3), 1 << first);
    }

    private static void copyAsAhead() {
        Check.says("n ITEMS of a from i on come to b from j on, as they were ahead: n.");
        BarkNames x = Check.of("w2;p10,9;c0,0,0,1;");
        Check.fill(x, 9, 8, 7, 6, 5);
        Check.due("behind themselves", x.copy(0, 0, 0, 1, 4), 4);
        goes(x, "from 1 on", 1, 10);
        goes(x, "from 2 on", 2, 9);
        Check.fill(x, 9, 8, 7, 6, 5);
        Check.due("ahead of themselves", x.copy(0, 1, 0, 0, 4), 4);
        goes(x, "from 0 on", 0, 9);
        goes(x, "from 1 on", 1, 8);
        Check.fill(x, 9, 8, 7, 6, 5);
        Check.due("onto themselves", x.copy(0, 0, 0, 0, 5), 5);
        goes(x, "from 0 on", 0, 10);
        goes(x, "from 2 on", 2, 8);
    }

    private static void copyToTheEnds() {
        Check.says("n ITEMS of a from i on come to b from j on");
        BarkNames x = Check.of("w2;p10,9;c0,0,0,1;");
        x.row(0, 2, 40);
        x.row(1, 2, 40);
        x.set(0, 37, 9);
        x.set(0, 38, 8);
        x.set(0, 39, 7);
        Check.due("all 40", x.copy(0, 0, 1, 0, 40), 40);
        Check.due("the last came", x.gaps(0, 1, 37, 3), 1 << 10);
        Check.due("the last one to the first", x.copy(0, 39, 1, 0, 1), 1);
        Check.due("it came", x.gaps(0, 1, 0, 1), 1 << 8);
        Check.due("none at both ends", x.copy(0, 40, 1, 40, 0), 0);
        x.row(2, 2, 0);
        Check.due("none of a ROW of none", x.copy(2, 0, 2, 0, 0), 0);
        Check.due("none to a ROW of none", x.copy(0, 40, 2, 0, 0), 0);
    }

    private static void copyBelowZero() {
        Check.says("PLACE (i, j, n below 0");
        BarkNames x = new BarkNames();
        x.row(0, 0, 4);
        int[] below = {-1, -4, MIN};
        for (int it : below) {
            Check.due("i " + it, x.copy(0, it, 0, 0, 1), Check.PLACE);
            Check.due("j " + it, x.copy(0, 0, 0, it, 1), Check.PLACE);
            Check.due("n " + it, x.copy(0, 0, 0, 0, it), Check.PLACE);
            Check.due("i " + it + ", none", x.copy(0, it, 0, 0, 0), Check.PLACE);
            Check.due("j " + it + ", none", x.copy(0, 0, 0, it, 0), Check.PLACE);
        }
        Check.due("n -1 from the end on", x.copy(0, 4, 0, 4, -1), Check.PLACE);
    }

    private static void copyBeyondAnEnd() {
        Check.says("or beyond an end");
        BarkNames x = new BarkNames();
        x.row(0, 0, 4);
        x.row(1, 0, 2);
        Check.due("1 beyond a's", x.copy(1, 1, 0, 0, 2), Check.PLACE);
        Check.due("1 beyond b's", x.copy(0, 0, 1, 1, 2), Check.PLACE);
        Check.due("up to both", x.copy(0, 2, 1, 0, 2), 2);
        Check.due("none, beyond a's", x.copy(0, 5, 1, 0, 0), Check.PLACE);
        Check.due("none, beyond b's", x.copy(0, 0, 1, 3, 0), Check.PLACE);
        Check.due("i far beyond", x.copy(0, MAX, 1, 0, 1), Check.PLACE);
        Check.due("j far beyond", x.copy(0, 0, 1, MAX, 1), Check.PLACE);
        Check.due("n far beyond", x.copy(0, 0, 1, 0, MAX), Check.PLACE);
        Check.due("i and n that wrap round to 0", x.copy(0, 1, 1, 0, MAX), Check.PLACE);
        Check.due("i, j, n that wrap round", x.copy(0, MAX, 1, MAX, MAX), Check.PLACE);
    }

    private static void copyRefused() {
        Check.says("BAD: ROWS; NULL; STORE; PLACE");
        BarkNames x = new BarkNames();
        x.row(0, 0, 4);
        x.row(1, 1, 4);
        x.row(2, 2, 4);
        Check.due("a -1", x.copy(-1, 0, 0, 0, 1), Check.BAD);
        Check.due("a 8", x.copy(8, 0, 0, 0, 1), Check.BAD);
        Check.due("b -1", x.copy(0, 0, -1, 0, 1), Check.BAD);
        Check.due("b 8", x.copy(0, 0, 8, 0, 1), Check.BAD);
        Check.due("a missing", x.copy(3, 0, 0, 0, 1), Check.NULL);
        Check.due("b missing", x.copy(0, 0, 3, 0, 1), Check.NULL);
        Check.due("both missing", x.copy(3, 0, 3, 0, 0), Check.NULL);
        for (int a = 0; a < 3; a++) {
            for (int b = 0; b < 3; b++) {
                Check.due("LANES " + a + " and " + b, x.copy(a, 0, b, 0, 1), a == b ? 1 : Check.STORE);
            }
        }
        Check.due("none, of two LANES", x.copy(0, 0, 1, 0, 0), Check.STORE);
    }

    private static void dropped() {
        Check.says("A ROW is missing from now on: how many ITEMS it had.");
        BarkNames x = new BarkNames();
        x.row(0, 0, 0);
        x.row(7, 2, 40);
        Check.due("none", x.drop(0), 0);
        Check.due("40", x.drop(7), 40);
        Check.due("missing", there(x, 7), Check.NULL);
        Check.due("how many are there", x.count(0), 0);
        Check.due("there again", x.row(7, 1, 2), 2);
        Check.due("2", x.drop(7), 2);
    }

    private static void dropRefused() {
        Check.says("BAD; NULL.");
        BarkNames x = new BarkNames();
        x.row(0, 0, 1);
        x.drop(0);
        Check.due("ROW -1", x.drop(-1), Check.BAD);
        Check.due("ROW 8", x.drop(8), Check.BAD);
        Check.due("never there", x.drop(7), Check.NULL);
        Check.due("dropped", x.drop(0), Check.NULL);
    }

    private static void statusOfNone() {
        Check.says("0: it had none, or there was none.");
        BarkNames x = Check.of("w2;d10,0;c0,0,0,1;");
        Check.due("there was none", x.status(), 0);
        x.row(8, 0, 0);
        Check.due("but a BAD one", x.status(), 0);
        x.drop(0);
        x.row(0, 0, 2);
        Check.due("row had none", x.status(), 0);
        x.drop(1);
        x.set(0, 0, 0);
        Check.due("set had none", x.status(), 0);
        x.drop(1);
        x.copy(0, 0, 0, 1, 1);
        Check.due("copy had none", x.status(), 0);
        x.drop(1);
        x.gaps(0, 0, 0, 2);
        Check.due("gaps had none", x.status(), 0);
        x.drop(1);
        x.which(0, 0, 0, 2, 0);
        Check.due("which had none", x.status(), 0);
        x.drop(1);
        x.as(0, 5);
        Check.due("as had none", x.status(), 0);
        x.drop(1);
        x.drop(0);
        Check.due("drop had none", x.status(), 0);
    }

    private static void statusNotOfRefused() {
        Check.says("that was not BAD, STATE, FULL");
        BarkNames x = Check.of("w2;d10,0;c0,0,0,1;");
        x.row(0, 0, -1);
        Check.due("row BAD", x.row(8, 0, 1), Check.BAD);
        Check.due("set BAD", x.set(8, 0, 1), Check.BAD);
        Check.due("copy BAD", x.copy(8, 0, 0, 0, 1), Check.BAD);
        Check.due("drop BAD", x.drop(8), Check.BAD);
        Check.due("gaps BAD", x.gaps(0, 0, 0, 0), Check.BAD);
        Check.due("which BAD", x.which(0, 0, 0, 1, 2), Check.BAD);
        Check.due("as BAD", x.as(0, 6), Check.BAD);
        Check.due("SIZE still", x.status(), 4);
        x.years(1);
        x.undo();
        x.undo();
        x.feed('w');
        x.wood();
        x.ask(0, 0);
        x.count(0);
        Check.due("SIZE still, behind calls without a ROW", x.status(), 4);
    }

    private static void statusOfTheLatest() {
        Check.says("Of the latest call with a ROW, or as()");
        BarkNames x = Check.of("w2;d10,0;c0,0,0,1;");
        x.drop(0);
        x.row(0, 0, -1);
        Check.due("row", x.status(), 4);
        x.set(0, 0, 0);
        Check.due("set", x.status(), 1);
        x.as(0, 2);
        Check.due("as", x.status(), 3);
        x.copy(0, 0, 0, 0, 0);
        Check.due("copy", x.status(), 1);
        x.as(0, 2);
        x.drop(0);
        Check.due("drop", x.status(), 1);
        x.as(0, 2);
        x.gaps(0, 0, 0, 1);
        Check.due("gaps", x.status(), 1);
        x.as(0, 2);
        x.which(0, 0, 0, 1, 0);
        Check.due("which", x.status(), 1);
        Check.due("asked again", x.status(), 1);
    }
}
