/** The edges that the document names for kinds, asks, the trace and counts (promises 1, 30 to 34), a sentence at a time. */
public final class EdgesOfAsksTest {
    private static final int MIN = Integer.MIN_VALUE, MAX = Integer.MAX_VALUE;
    private static final String KINDS = "w2;b11,5;o22,6;y33,7;p44,8;";

    public static void main(String[] args) {
        newObject();
        kinds();
        kindRefused();
        takenAs();
        asRefused();
        sizes();
        marks();
        askedAnew();
        leastAndGreatest();
        askRefused();
        traceIsEmpty();
        traceNone();
        counts();
        countsOfAct();
        countRefused();
        calls512();
        Check.end();
    }

    private static void newObject() {
        Check.says("No WOOD.");
        BarkNames x = new BarkNames();
        for (int what = 0; what <= 7; what++) {
            Check.due("count(" + what + ")", x.count(what), 0);
        }
        Check.due("fault()", x.fault(), 0);
        Check.due("status()", x.status(), 0);
        for (int i = 0; i < 16; i++) {
            Check.due("trace(" + i + ")", x.trace(i), Check.NONE);
        }
        Check.due("kind(0)", x.kind(0), Check.BAD);
        Check.due("as(0, 0)", x.as(0, 0), Check.BAD);
        Check.due("ask(0, 0)", x.ask(0, 0), Check.BAD);
        Check.due("tree(0, 0)", x.tree(0, 0), Check.BAD);
        Check.due("cutHas(0, 0)", x.cutHas(0, 0), Check.BAD);
        Check.due("anew(0, 1)", x.anew(0, 1), Check.BAD);
        Check.due("scrape(0)", x.scrape(0), Check.BAD);
        Check.due("apart(0, 1)", x.apart(0, 1), Check.BAD);
        Check.due("together(0, 1)", x.together(0, 1), Check.BAD);
        Check.due("free(0, 1)", x.free(0, 1), Check.BAD);
        Check.due("storm(0, 1, 0, 0)", x.storm(0, 1, 0, 0), Check.BAD);
        Check.due("meet(0, 0)", x.meet(0, 0), Check.BAD);
        Check.due("rings(0, 0)", x.rings(0, 0), Check.BAD);
        BarkNames other = Check.of("w2;d10,0;");
        other.row(0, 0, 1);
        Check.due("nothing of another object's", x.count(0) + x.count(1) + x.count(7), 0);
    }

    private static void kinds() {
        Check.says("KINDS of TREES: 0 TREE; 1 BEECH, a TREE; 2 OAK, a BEECH; 3 BIRCH, a BEECH; 4 PINE, a TREE; 5 DEAD, a PINE.");
        String sorts = "boypd";
        String[] is = {"110000", "111000", "110100", "100010", "100011"};
        for (int i = 0; i < sorts.length(); i++) {
            BarkNames x = Check.of("w2;" + sorts.charAt(i) + "10,0;");
            Check.due("kind of " + sorts.charAt(i), x.kind(0), i + 1);
            for (int kind = 0; kind <= 5; kind++) {
                Check.due(sorts.charAt(i) + " as " + kind, x.as(0, kind), is[i].charAt(kind) == '1' ? 0 : Check.KIND);
            }
        }
    }

    private static void kindRefused() {
        Check.says("The KIND of a TREE, as told (1 to 5). BAD.");
        BarkNames x = Check.of(KINDS);
        int[] noTree = {4, -1, MIN, MAX};
        for (int tree : noTree) {
            Check.due("kind(" + tree + ")", x.kind(tree), Check.BAD);
        }
        x.as(1, 0);
        x.years(2);
        Check.due("as told", x.kind(1), 2);
    }

    private static void takenAs() {
        Check.says("A TREE is taken as one of a KIND (0 .. 5): the TREE's number.");
        BarkNames x = Check.of(KINDS);
        for (int tree = 0; tree < 4; tree++) {
            Check.due("as(" + tree + ", 0)", x.as(tree, 0), tree);
            Check.due("as(" + tree + ", its own)", x.as(tree, tree + 1), tree);
        }
        Check.due("an oak as a birch", x.as(1, 3), Check.KIND);
        Check.due("its status", x.status(), 3);
        Check.due("an oak as a beech", x.as(1, 1), 1);
        Check.due("its status", x.status(), 0);
        Check.due("a beech as an oak", x.as(0, 2), Check.KIND);
        Check.due("a pine as a dead one", x.as(3, 5), Check.KIND);
    }

    private static void asRefused() {
        Check.says("BAD; KIND: it is no such one.");
        BarkNames x = Check.of(KINDS);
        x.as(0, 5);
        int[] noTree = {4, -1, MIN, MAX};
        for (int tree : noTree) {
            Check.due("as(" + tree + ", 0)", x.as(tree, 0), Check.BAD);
        }
        int[] noKind = {6, -1, MIN, MAX};
        for (int kind : noKind) {
            Check.due("as(0, " + kind + ")", x.as(0, kind), Check.BAD);
        }
        Check.due("the status stays", x.status(), 3);
    }

    private static void ask(BarkNames x, int tree, int what, int due, int... bodies) {
        String call = "ask(" + tree + ", " + what + ")";
        Check.due(call, x.ask(tree, what), due);
        for (int i = 0; i < 16; i++) {
            Check.due("trace(" + i + ") of " + call, x.trace(i), i < bodies.length ? bodies[i] : Check.NONE);
        }
    }

    private static void sizes() {
        Check.says("0 SIZE: 10 lent to all TREES: SUN. 11 of BEECHES: what 10 gives, and MARK.");
        BarkNames x = Check.of(KINDS);
        ask(x, 0, 0, 5 + (0 + 11), 11, 10, 21, 20);
        Check.says("12 of OAKS: 0 less what 11 gives.");
        ask(x, 1, 0, -(6 + 2 * (1 + 22)), 12, 11, 10, 24, 21, 20);
        Check.says("else that of the nearest KIND that it is, too");
        ask(x, 2, 0, 7 + (2 + 33 - 1000), 11, 10, 22, 21, 20);
        Check.says("13 of PINES: what 10 gives, less 100.");
        ask(x, 3, 0, 8 - 100, 13, 10);
        Check.says("14 of DEAD ones: twice what 13 gives (asked once).");
        ask(Check.of("w2;d44,8;"), 0, 0, 2 * (8 - 100), 14, 13, 10);
    }

    private static void marks() {
        Check.says("1 MARK: 20 lent to all TREES: the number. 21 of BEECHES: what 20 gives, and GIRTH.");
        BarkNames x = Check.of(KINDS);
        ask(x, 0, 1, 0 + 11, 21, 20);
        Check.says("22 of BIRCHES: what 21 gives, less 1000.");
        ask(x, 2, 1, 2 + 33 - 1000, 22, 21, 20);
        Check.says("24 of OAKS: twice what 21 gives (asked once).");
        ask(x, 1, 1, 2 * (1 + 22), 24, 21, 20);
        Check.says("23 of PINES: what 20 gives, less SIZE.");
        ask(x, 3, 1, 3 - (8 - 100), 23, 20, 13, 10);
    }

    private static void askedAnew() {
        Check.says("SIZE, MARK within others are asked of the same TREE anew.");
        BarkNames x = Check.of("w2;d10,1;d20,2;o30,3;d40,9;");
        ask(x, 1, 1, 1 - 2 * (2 - 100), 23, 20, 14, 13, 10);
        ask(x, 3, 1, 3 - 2 * (9 - 100), 23, 20, 14, 13, 10);
        ask(x, 2, 0, -(3 + 2 * (2 + 30)), 12, 11, 10, 24, 21, 20);
        x.years(3);
        Check.due("by the GIRTH that it has now", x.ask(2, 1), 2 * (2 + 33));
        x.undo();
        Check.due("and when a YEAR is undone", x.ask(2, 1), 2 * (2 + 32));
        x.girth(2, 50);
        Check.due("not by what is foretold", x.ask(2, 1), 2 * (2 + 32));
    }

    private static void leastAndGreatest() {
        Check.says("ASKS of TREES, by BODIES");
        BarkNames x = Check.of("w2;b90,0;y90,9;o90,9;d10,0;");
        for (int i = 0; i < 46; i++) {
            x.years(20);
        }
        Check.due("a beech of 999, SIZE", x.ask(0, 0), 0 + 0 + 999);
        Check.due("a birch of 999, MARK", x.ask(1, 1), 1 + 999 - 1000);
        Check.due("an oak of 999, MARK", x.ask(2, 1), 2 * (2 + 999));
        Check.due("an oak of 999, SIZE", x.ask(2, 0), -(9 + 2 * (2 + 999)));
        Check.due("a dead one of SUN 0, SIZE", x.ask(3, 0), -200);
        Check.due("a dead one of SUN 0, MARK", x.ask(3, 1), 3 + 200);
    }

    private static void askRefused() {
        Check.says("An ASK (0, 1) of a TREE. BAD (THE TRACE stays then).");
        BarkNames x = Check.of(KINDS);
        x.ask(0, 1);
        int[] noTree = {4, -1, MIN, MAX};
        for (int tree : noTree) {
            Check.due("TREE " + tree, x.ask(tree, 0), Check.BAD);
        }
        int[] noAsk = {2, -1, MIN, MAX};
        for (int what : noAsk) {
            Check.due("ASK " + what, x.ask(0, what), Check.BAD);
        }
        Check.due("trace(0)", x.trace(0), 21);
        Check.due("trace(1)", x.trace(1), 20);
        Check.due("trace(2)", x.trace(2), Check.NONE);
    }

    private static void traceIsEmpty() {
        Check.says("THE TRACE is empty ahead of it.");
        BarkNames x = Check.of(KINDS);
        x.ask(1, 0);
        ask(x, 0, 1, 11, 21, 20);
        ask(x, 0, 1, 11, 21, 20);
    }

    private static void traceNone() {
        Check.says("Number i of THE TRACE; NONE.");
        BarkNames x = Check.of(KINDS);
        Check.due("ahead of an ASK", x.trace(0), Check.NONE);
        x.ask(1, 0);
        Check.due("the first", x.trace(0), 12);
        Check.due("the last", x.trace(5), 20);
        int[] none = {6, 15, 16, 17, -1, MIN, MAX};
        for (int i : none) {
            Check.due("trace(" + i + ")", x.trace(i), Check.NONE);
        }
        Check.due("asked again", x.trace(0), 12);
    }

    private static void counts() {
        Check.says("How many: 0 ROWS, 1 TREES, 2 CUTS, 3 CUTS that are not HEALED, 4 the YEAR, 5 WIDE, "
                + "6 ACTS that can be undone, 7 bytes on the tape. BAD.");
        BarkNames x = Check.of("w9;p10,3;d10,0;c0,0,0,1;c0,0,1,2;c0,0,2,4;");
        for (int row = 0; row < 8; row++) {
            x.row(row, 0, row);
            Check.due("ROWS", x.count(0), row + 1);
        }
        x.years(3);
        x.feed('w');
        x.feed('2');
        int[] due = {8, 2, 3, 1, 3, 9, 3, 2};
        for (int what = 0; what < due.length; what++) {
            Check.due("count(" + what + ")", x.count(what), due[what]);
        }
    }

    private static void countsOfAct() {
        Check.says("6 ACTS that can be undone");
        BarkNames x = Check.of("w9;d10,3;");
        x.years(20);
        Check.due("20", x.count(6), 20);
        x.years(4);
        Check.due("24", x.count(6), 24);
        x.years(1);
        Check.due("24 still", x.count(6), 24);
        x.undo();
        Check.due("23", x.count(6), 23);
    }

    private static void countRefused() {
        Check.says("7 bytes on the tape. BAD.");
        BarkNames x = Check.of(KINDS);
        int[] bad = {8, -1, MIN, MAX};
        for (int what : bad) {
            Check.due("count(" + what + ")", x.count(what), Check.BAD);
        }
    }

    private static void calls512() {
        Check.says("An object is used for at most 512 calls after it has been made");
        BarkNames x = new BarkNames();
        String text = "w2;p10,3;c0,0,0,1;";
        Check.read(x, text);
        int calls = text.length() + 1;
        int year = 0;
        while (calls < 509) {
            x.years(1);
            year++;
            calls++;
            if (calls % 7 == 0) {
                x.undo();
                year--;
                calls++;
            }
        }
        Check.due("the year", x.count(4), year);
        Check.due("the girth", x.tree(0, 0), Math.min(10 + 3 * year, 999));
    }
}
