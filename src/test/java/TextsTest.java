/** Promises 1 and 6 to 8: a new object, the tape, woods and faults. */
public final class TextsTest {
    private static final String FOUR_TREES = "w5;b40,9;o60,8;y30,2;p20,3;";
    private static final String EIGHT_CUTS = "c0,0,0,1;c0,0,1,1;c0,0,2,1;c0,0,3,1;c0,0,4,1;c0,0,5,1;c0,0,6,1;c0,0,7,1;";

    public static void main(String[] args) {
        newObject();
        feed();
        read();
        faultsOfTokens();
        faultsOfEnds();
        faultsOfNumbers();
        faultsOfRoom();
        faultStays();
        woodInPlace();
        Check.end();
    }

    private static void newObject() {
        BarkNames x = new BarkNames();
        for (int what = 0; what <= 7; what++) {
            Check.due("count(" + what + ") of a new object", x.count(what), 0);
        }
        Check.due("fault()", x.fault(), 0);
        Check.due("status()", x.status(), 0);
        Check.due("trace(0)", x.trace(0), Check.NONE);
        Check.due("tree(0, 0)", x.tree(0, 0), Check.BAD);
        Check.due("years(0): STATE ahead of BAD", x.years(0), Check.STATE);
        Check.due("left(-1): STATE ahead of BAD", x.left(-1), Check.STATE);
        Check.due("holds(0, 0, 0): STATE ahead of BAD", x.holds(0, 0, 0), Check.STATE);
        Check.due("undo()", x.undo(), Check.STATE);
    }

    private static void feed() {
        BarkNames x = new BarkNames();
        Check.due("feed(-1)", x.feed(-1), Check.BAD);
        Check.due("feed(256)", x.feed(256), Check.BAD);
        Check.due("feed(0)", x.feed(0), 1);
        Check.due("feed(255)", x.feed(255), 2);
        for (int i = 3; i <= 140; i++) {
            Check.due("feed number " + i, x.feed('a'), i);
        }
        Check.due("feed beyond 140", x.feed('a'), Check.FULL);
        Check.due("BAD ahead of FULL", x.feed(256), Check.BAD);
        Check.due("count(7)", x.count(7), 140);
        Check.due("wood()", x.wood(), -1000100);
        Check.due("count(7), empty then", x.count(7), 0);
        Check.due("feed again", x.feed('w'), 1);
    }

    private static void read() {
        BarkNames x = new BarkNames();
        Check.due("law alone", Check.read(x, "w9;"), 0);
        Check.due("count(5)", x.count(5), 9);
        Check.due("count(7)", x.count(7), 0);
        Check.due("left(0) of no trees", x.left(0), 0);
        Check.due("holds(1, 1, 0) of no trees", x.holds(1, 1, 0), 0);
        Check.due("years(1) of no trees", x.years(1), 0);
        Check.due("trees without cuts", Check.read(x, "w2;d10,0;d90,9;"), 0);
        Check.due("count(1)", x.count(1), 2);
        Check.due("count(4), a new wood", x.count(4), 0);
        Check.due("all there is room for", Check.read(x, FOUR_TREES + EIGHT_CUTS), 8);
        Check.due("count(1)", x.count(1), 4);
        Check.due("count(2)", x.count(2), 8);
        Check.due("figures with a 0 ahead", Check.read(x, "w05;b10,09;c00,00,00,01;c0,25,59,20;"), 2);
        Check.due("count(5)", x.count(5), 5);
        Check.due("tree(0, 0)", x.tree(0, 0), 10);
        Check.due("tree(0, 1)", x.tree(0, 1), 9);
        Check.due("cutHas(0, 3)", x.cutHas(0, 3), 1);
        Check.due("cutHas(1, 0)", x.cutHas(1, 0), 0);
        Check.due("cutHas(1, 1)", x.cutHas(1, 1), 25);
        Check.due("cutHas(1, 2)", x.cutHas(1, 2), 59);
        Check.due("cutHas(1, 3)", x.cutHas(1, 3), 20);
        Check.due("one place on two trees", Check.read(x, "w5;d10,0;d10,0;c0,0,7,1;c1,0,7,1;"), 2);
        String sorts = "boypd";
        for (int i = 0; i < sorts.length(); i++) {
            Check.read(x, "w2;" + sorts.charAt(i) + "10,0;");
            Check.due("kind of " + sorts.charAt(i), x.kind(0), i + 1);
        }
    }

    private static void fails(String text, int place, int number) {
        BarkNames x = new BarkNames();
        Check.due("wood of " + text, Check.read(x, text), -1000100 - place);
        Check.due("fault of " + text, x.fault(), number);
        Check.due("bytes left of " + text, x.count(7), 0);
        Check.due("law of " + text, x.count(5), 0);
    }

    private static void faultsOfTokens() {
        fails("", 0, 1);
        fails("b", 0, 1);
        fails("W2;", 0, 1);
        fails("w", 1, 1);
        fails("w;", 1, 1);
        fails("w,", 1, 1);
        fails("w 2;", 1, 1);
        fails("w2", 2, 1);
        fails("w2,", 2, 1);
        fails("w2;;", 3, 1);
        fails("w2;w3;", 3, 1);
        fails("w2;a10,0;", 3, 1);
        fails("w2;10", 3, 1);
        fails("w222;", 1, 1);
        fails("w0002;", 1, 1);
        fails("w2;b100,0;", 4, 1);
        fails("w2;b10;", 6, 1);
        fails("w2;b10,", 7, 1);
        fails("w2;b10,0", 8, 1);
        fails("w2;b10,0,", 8, 1);
        fails("w2;b10,000;", 7, 1);
        fails("w2;b10,0;c", 10, 1);
        fails("w2;b10,0;c0;", 11, 1);
        fails("w2;b10,0;cb", 10, 1);
        fails("w2;b10,0;c0,0,0,1", 17, 1);
        fails("w2;b10,0;c0,0,0,1,", 17, 1);
        fails("w2;b10,0;c0,0,0;", 15, 1);
        fails("w2;b10,0;c0,0;", 13, 1);
        fails("w2;b10,0;c0,0,0,001;", 16, 1);
        fails("w2;b10,0;c0,0,0,1;b10,0;", 18, 1);
        fails("w2;b10,0;c0,0,0,1;x", 18, 1);
        fails("w2;" + (char) 233, 3, 1);
    }

    /** Each text that ends too early. */
    private static void faultsOfEnds() {
        String text = "w5;b40,9;c0,12,59,20;";
        for (int end = 0; end < text.length(); end++) {
            String begun = text.substring(0, end);
            // w5;b4 tells a GIRTH of 4
            if (!begun.endsWith(";") && !begun.endsWith("b4")) {
                fails(begun, end, 1);
            }
        }
    }

    private static void faultsOfNumbers() {
        fails("w1;", 1, 2);
        fails("w10;", 1, 2);
        fails("w1", 1, 2);
        fails("w0x", 1, 2);
        fails("w2;b9,0;", 4, 2);
        fails("w2;b91,0;", 4, 2);
        fails("w2;b10,10;", 7, 2);
        fails("w2;c0,0,0,1;", 4, 2);
        fails("w2;b10,0;c1,0,0,1;", 10, 2);
        fails("w2;b10,0;c0,26,0,1;", 12, 2);
        fails("w2;b10,0;c0,0,60,1;", 14, 2);
        fails("w2;b10,0;c0,0,0,0;", 16, 2);
        fails("w2;b10,0;c0,0,0,21;", 16, 2);
        fails("w2;b10,0;c0,0,7,1;c0,1,07,2;", 23, 2);
        fails("w2;b10,0;c0,0,7,1;c0,1,7x", 23, 2);
        fails("w2;b10,0;c0,0,7,1;c0,1,7", 23, 2);
    }

    private static void faultsOfRoom() {
        fails(FOUR_TREES + "d10,0;", 27, 3);
        fails(FOUR_TREES + "d", 27, 3);
        fails(FOUR_TREES + "x", 27, 1);
        fails(FOUR_TREES + EIGHT_CUTS + "c0,0,8,1;", 99, 3);
        fails(FOUR_TREES + EIGHT_CUTS + "c", 99, 3);
        fails(FOUR_TREES + EIGHT_CUTS + "d10,0;", 99, 1);
        fails(FOUR_TREES + EIGHT_CUTS + "7", 99, 1);
    }

    private static void faultStays() {
        BarkNames x = Check.of(Check.FOUR);
        x.years(1);
        x.image(0);
        x.row(2, 0, 5);
        Check.due("a fault", Check.read(x, "w2;b9,0;"), -1000104);
        Check.due("fault()", x.fault(), 2);
        Check.due("the wood stays", x.tree(0, 0), 44);
        Check.due("its law stays", x.count(5), 5);
        Check.due("its cuts stay", x.count(2), 8);
        Check.due("acts stay", x.count(6), 1);
        Check.due("the year stays", x.count(4), 1);
        Check.due("a wood", Check.read(x, "w2;"), 0);
        Check.due("fault() stays", x.fault(), 2);
        Check.due("another", Check.read(x, "w2"), -1000102);
        Check.due("fault() of the latest", x.fault(), 1);
    }

    private static void woodInPlace() {
        BarkNames x = Check.of(Check.FOUR);
        x.image(1);
        x.row(3, 1, 2);
        x.years(3);
        x.left(9);
        x.ask(3, 1);
        Check.due("another wood", Check.read(x, "w2;b10,3;c0,0,0,1;"), 1);
        Check.due("the year", x.count(4), 0);
        Check.due("no act", x.count(6), 0);
        Check.due("undo()", x.undo(), Check.STATE);
        Check.due("trees", x.count(1), 1);
        Check.due("rows stay", x.count(0), 1);
        Check.due("the trace stays", x.trace(0), 23);
        Check.due("images stay", x.restore(1), 1);
        Check.due("the wood of the image", x.count(2), 8);
    }
}
