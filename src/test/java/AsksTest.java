/** Promises 30 to 34: kinds, asks, the trace, counts. */
public final class AsksTest {
    private static final String KINDS = "w2;b11,5;o22,6;y33,7;p44,8;";

    public static void main(String[] args) {
        kind();
        as();
        asks();
        askRefused();
        count();
        Check.end();
    }

    private static void kind() {
        BarkNames x = Check.of(KINDS);
        for (int tree = 0; tree < 4; tree++) {
            Check.due("kind(" + tree + ")", x.kind(tree), tree + 1);
        }
        Check.due("kind(4)", x.kind(4), Check.BAD);
        Check.due("kind(-1)", x.kind(-1), Check.BAD);
    }

    private static void as() {
        String[] sorts = {"b", "o", "y", "p", "d"};
        // by bits, what each KIND is: itself, and what it is, too
        int[] is = {1 | 2, 1 | 2 | 4, 1 | 2 | 8, 1 | 16, 1 | 16 | 32};
        for (int s = 0; s < sorts.length; s++) {
            BarkNames x = Check.of("w2;d10,0;" + sorts[s] + "10,0;");
            for (int kind = 0; kind <= 5; kind++) {
                boolean such = (is[s] >> kind & 1) != 0;
                Check.due("as of " + sorts[s] + ", " + kind, x.as(1, kind), such ? 1 : Check.KIND);
                Check.due("status", x.status(), such ? 0 : 3);
            }
            Check.due("kind, as told", x.kind(1), s + 1);
            Check.due("as(1, 6)", x.as(1, 6), Check.BAD);
            Check.due("as(1, -1)", x.as(1, -1), Check.BAD);
            Check.due("as(2, 0)", x.as(2, 0), Check.BAD);
            Check.due("as(-1, 0)", x.as(-1, 0), Check.BAD);
        }
    }

    private static void ask(BarkNames x, int tree, int what, int due, int... bodies) {
        String call = "ask(" + tree + ", " + what + ")";
        Check.due(call, x.ask(tree, what), due);
        for (int i = 0; i < bodies.length; i++) {
            Check.due("trace(" + i + ") of " + call, x.trace(i), bodies[i]);
        }
        Check.due("the end of the trace of " + call, x.trace(bodies.length), Check.NONE);
    }

    private static void asks() {
        BarkNames x = Check.of(KINDS);
        ask(x, 0, 0, 5 + 11, 11, 10, 21, 20);
        ask(x, 0, 1, 11, 21, 20);
        ask(x, 1, 0, -(6 + 2 * 23), 12, 11, 10, 24, 21, 20);
        ask(x, 1, 1, 2 * 23, 24, 21, 20);
        ask(x, 2, 0, 7 + 35 - 1000, 11, 10, 22, 21, 20);
        ask(x, 2, 1, 35 - 1000, 22, 21, 20);
        ask(x, 3, 0, 8 - 100, 13, 10);
        ask(x, 3, 1, 3 - (8 - 100), 23, 20, 13, 10);
        x.as(1, 0);
        ask(x, 1, 1, 2 * 23, 24, 21, 20);
        x.years(1);
        ask(x, 0, 1, 13, 21, 20);
        Check.read(x, "w2;b10,0;d44,8;");
        ask(x, 1, 0, 2 * (8 - 100), 14, 13, 10);
        ask(x, 1, 1, 1 + 2 * 92, 23, 20, 14, 13, 10);
    }

    private static void askRefused() {
        BarkNames x = Check.of(KINDS);
        x.ask(0, 1);
        Check.due("ask(4, 0)", x.ask(4, 0), Check.BAD);
        Check.due("ask(-1, 0)", x.ask(-1, 0), Check.BAD);
        Check.due("ask(0, 2)", x.ask(0, 2), Check.BAD);
        Check.due("ask(0, -1)", x.ask(0, -1), Check.BAD);
        Check.due("the trace stays", x.trace(0), 21);
        Check.due("trace(1)", x.trace(1), 20);
        Check.due("trace(-1)", x.trace(-1), Check.NONE);
        Check.due("trace(16)", x.trace(16), Check.NONE);
        Check.due("trace(MAX)", x.trace(Integer.MAX_VALUE), Check.NONE);
    }

    private static void count() {
        BarkNames x = Check.of(Check.FOUR);
        x.row(0, 0, 1);
        x.row(5, 0, 1);
        x.row(5, 0, 2);
        x.years(3);
        x.feed('w');
        int[] due = {2, 4, 8, 5, 3, 5, 3, 1};
        for (int what = 0; what < due.length; what++) {
            Check.due("count(" + what + ")", x.count(what), due[what]);
        }
        Check.due("count(8)", x.count(8), Check.BAD);
        Check.due("count(-1)", x.count(-1), Check.BAD);
    }
}
