import java.util.Random;

/** Runs of random calls with rows, the same ones each time, with the answers of plain arrays. */
public final class RandomRowsTest {
    private final Random random;
    private final BarkNames x = Check.of("w2;p10,3;c0,0,0,1;");
    private final int[][] items = new int[8][];
    private final int[] lanes = new int[8];
    private int status;

    private RandomRowsTest(int seed) {
        random = new Random(seed);
    }

    public static void main(String[] args) {
        for (int seed = 0; seed < 1000; seed++) {
            new RandomRowsTest(seed).run();
        }
        Check.end();
    }

    private void run() {
        for (int i = 0; i < 80; i++) {
            switch (random.nextInt(8)) {
                case 0: row(); break;
                case 1: drop(); break;
                case 2: case 3: case 4: set(); break;
                default: copy(); break;
            }
            Check.due("status", x.status(), status);
        }
        look();
    }

    /** Of few rows, that they meet often; now and then beyond them. */
    private int someRow() {
        return random.nextInt(30) == 0 ? random.nextInt(20) - 5 : random.nextInt(4);
    }

    private int somePlace() {
        return random.nextInt(30) == 0 ? random.nextInt() : random.nextInt(9) - 1;
    }

    private static boolean isRow(int row) {
        return row >= 0 && row < 8;
    }

    private int found(int finding) {
        status = finding;
        return -1000010 - finding;
    }

    private void row() {
        int row = someRow();
        int lane = random.nextInt(20) == 0 ? random.nextInt(9) - 3 : random.nextInt(2);
        int n = random.nextInt(10) == 0 ? random.nextInt(50) - 5 : random.nextInt(9);
        int due = n;
        if (!isRow(row) || lane < 0 || lane > 2 || n > 40) {
            due = BarkNames.BAD;
        } else if (n < 0) {
            due = found(4);
        } else {
            items[row] = new int[n];
            lanes[row] = lane;
            status = 0;
        }
        Check.due("row", x.row(row, lane, n), due);
    }

    private void drop() {
        int row = someRow();
        int due = BarkNames.BAD;
        if (isRow(row) && items[row] == null) {
            due = found(1);
        } else if (isRow(row)) {
            due = items[row].length;
            items[row] = null;
            status = 0;
        }
        Check.due("drop", x.drop(row), due);
    }

    private void set() {
        int row = someRow();
        int i = somePlace();
        // mostly its lowest bits are 0 .. 15
        int v = random.nextInt(5) == 0 ? random.nextInt() : (random.nextInt() << 8 + 8 * random.nextInt(3)) + random.nextInt(16);
        int due = BarkNames.BAD;
        if (isRow(row) && items[row] == null) {
            due = found(1);
        } else if (isRow(row) && (i < 0 || i >= items[row].length)) {
            due = found(2);
        } else if (isRow(row)) {
            due = lanes[row] == 0 ? (byte) v : lanes[row] == 1 ? (short) v : v;
            items[row][i] = due;
            status = 0;
        }
        Check.due("set", x.set(row, i, v), due);
    }

    private void copy() {
        int a = someRow();
        int b = random.nextInt(3) == 0 ? a : someRow();
        int i = somePlace();
        int j = somePlace();
        int n = somePlace();
        int due = BarkNames.BAD;
        if (isRow(a) && isRow(b)) {
            due = copied(a, i, b, j, n);
        }
        Check.due("copy", x.copy(a, i, b, j, n), due);
    }

    private int copied(int a, int i, int b, int j, int n) {
        if (items[a] == null || items[b] == null) {
            return found(1);
        }
        if (lanes[a] != lanes[b]) {
            return found(5);
        }
        if (i < 0 || j < 0 || n < 0 || (long) i + n > items[a].length || (long) j + n > items[b].length) {
            return found(2);
        }
        int[] ahead = items[a].clone();
        for (int k = 0; k < n; k++) {
            items[b][j + k] = ahead[i + k];
        }
        status = 0;
        return n;
    }

    /** Each item from 0 to 19 is told by the depth that a cut must have to go there in a year. */
    private void look() {
        int there = 0;
        for (int row = 0; row < 8; row++) {
            there += items[row] == null ? 0 : 1;
            for (int i = 0; items[row] != null && i < items[row].length; i++) {
                int item = items[row][i];
                Check.due("item " + i, x.gaps(0, row, i, 1), item >= 0 && item < 20 ? 1 << item + 1 : 0);
            }
        }
        Check.due("rows", x.count(0), there);
    }
}
