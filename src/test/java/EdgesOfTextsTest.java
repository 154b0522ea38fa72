/** The edges that the document names for the tape, texts and faults (promises 6 to 8), a sentence at a time. */
public final class EdgesOfTextsTest {
    private static final String FOUR_TREES = "w5;b40,9;o60,8;y30,2;p20,3;";
    private static final String EIGHT_CUTS = "c0,0,0,1;c0,0,1,1;c0,0,2,1;c0,0,3,1;c0,0,4,1;c0,0,5,1;c0,0,6,1;c0,0,7,1;";

    public static void main(String[] args) {
        tapeOf140();
        longestWood();
        bytes();
        letters();
        figures();
        signs();
        order();
        wide();
        sorts();
        girths();
        suns();
        trees();
        treeTold();
        letterNumbers();
        places();
        depths();
        cuts();
        onePlace();
        inPlace();
        cannotStandThere();
        notAsTold();
        firstToken();
        itsFirstByte();
        theLeast();
        threeFigures();
        theEnd();
        endBehindALongerTape();
        roomForTrees();
        roomForCuts();
        tapeIsEmptyThen();
        allStays();
        latestFault();
        Check.end();
    }

    /** A text with a FAULT at a place. */
    private static void fails(String text, int place, int number) {
        BarkNames x = new BarkNames();
        Check.due("wood of " + text, Check.read(x, text), -1000100 - place);
        Check.due("fault of " + text, x.fault(), number);
    }

    /** A text of so many CUTS. */
    private static void reads(String text, int cuts) {
        BarkNames x = new BarkNames();
        Check.due("wood of " + text, Check.read(x, text), cuts);
        Check.due("fault of " + text, x.fault(), 0);
    }

    private static void tapeOf140() {
        Check.says("THE TAPE has at most 140 bytes, that come one by one");
        BarkNames x = new BarkNames();
        for (int i = 1; i <= 140; i++) {
            Check.due("byte " + i, x.feed(';'), i);
            Check.due("bytes", x.count(7), i);
        }
        Check.due("byte 141", x.feed(';'), Check.FULL);
        Check.due("140 still", x.count(7), 140);
        Check.due("byte 141 of no such number: BAD ahead of FULL", x.feed(256), Check.BAD);
        x.wood();
        Check.due("room again", x.feed(';'), 1);
    }

    /** Each NUMBER has two figures: 136 bytes. */
    private static void longestWood() {
        Check.says("THE TAPE has at most 140 bytes");
        StringBuilder s = new StringBuilder("w09;b10,00;o90,09;p10,00;d90,09;");
        for (int cut = 0; cut < 8; cut++) {
            s.append("c0").append(cut % 4).append(",25,0").append(cut).append(",20;");
        }
        Check.due("its bytes", s.length(), 136);
        reads(s.toString(), 8);
        fails(s + "c000", 136, 3);
        fails(s + "0000", 136, 1);
    }

    private static void bytes() {
        Check.says("A byte (0 to 255) comes behind the tape: how many it has. BAD; FULL.");
        BarkNames x = new BarkNames();
        Check.due("-1", x.feed(-1), Check.BAD);
        Check.due("0", x.feed(0), 1);
        Check.due("255", x.feed(255), 2);
        Check.due("256", x.feed(256), Check.BAD);
        Check.due("far below", x.feed(Integer.MIN_VALUE), Check.BAD);
        Check.due("far above", x.feed(Integer.MAX_VALUE), Check.BAD);
        Check.due("'w' and 256", x.feed('w' + 256), Check.BAD);
        Check.due("bytes", x.count(7), 2);
    }

    private static void letters() {
        Check.says("letters a to z (each by itself)");
        for (char c = 'a'; c <= 'z'; c++) {
            boolean starts = "boypdc".indexOf(c) >= 0;
            fails("w2;" + c, starts ? 4 : 3, 1);
        }
        fails("W2;", 0, 1);
        fails("ww2;", 1, 1);
        fails("w2;B10,0;", 3, 1);
        fails("w2;bb10,0;", 4, 1);
    }

    private static void figures() {
        Check.says("NUMBERS (figures, 2 at most)");
        reads("w2;", 0);
        reads("w02;", 0);
        fails("w002;", 1, 1);
        reads("w2;d10,0;c00,00,00,01;", 1);
        // the bytes next to 0 and 9
        fails("w/;", 1, 1);
        fails("w:;", 1, 1);
        fails("w2/", 2, 1);
        fails("w2:", 2, 1);
        fails("w-2;", 1, 1);
        fails("w+2;", 1, 1);
    }

    private static void signs() {
        Check.says("SIGNS , and ; nothing else, no blanks.");
        fails("w2; b10,0;", 3, 1);
        fails("w 2;", 1, 1);
        fails("w2 ;", 2, 1);
        fails(" w2;", 0, 1);
        fails("w2;b10,0; ", 9, 1);
        fails("w2;b10,0;\n", 9, 1);
        fails("w2;b10.0;", 6, 1);
        fails("w2;b10,0:", 8, 1);
        fails("w2," + "b10,0;", 2, 1);
        fails("w2;b10;0;", 6, 1);
        fails("w2;b10,0,", 8, 1);
        fails("w2;b10,0;c0;0,0,1;", 11, 1);
        fails("w2;b10,0;c0,0;0,1;", 13, 1);
        fails("w2;b10,0;c0,0,0;1;", 15, 1);
        fails("w2;b10,0;c0,0,0,1,", 17, 1);
        fails("w2;" + (char) 0, 3, 1);
        fails("w2;" + (char) 255, 3, 1);
        fails("w2;" + (char) ('b' + 128) + "10,0;", 3, 1);
    }

    private static void order() {
        Check.says("wood: law { tree } { cut }.");
        reads("w2;", 0);
        reads("w2;d10,0;", 0);
        fails("d10,0;", 0, 1);
        fails("c0,0,0,1;", 0, 1);
        fails("w2;w2;", 3, 1);
        fails("w2;d10,0;w2;", 9, 1);
        fails("w2;d10,0;c0,0,0,1;d10,0;", 18, 1);
        fails("w2;d10,0;c0,0,0,1;w2;", 18, 1);
    }

    private static void wide() {
        Check.says("law: w WIDE ; (2 to 9)");
        fails("w0;", 1, 2);
        fails("w1;", 1, 2);
        fails("w10;", 1, 2);
        fails("w99;", 1, 2);
        for (int wide = 2; wide <= 9; wide++) {
            Check.due("WIDE " + wide, Check.of("w" + wide + ";").count(5), wide);
        }
    }

    private static void sorts() {
        Check.says("SORT: b a beech, o an oak, y a birch, p a pine, d a dead one");
        String sorts = "boypd";
        for (int i = 0; i < sorts.length(); i++) {
            Check.due("" + sorts.charAt(i), Check.of("w2;" + sorts.charAt(i) + "10,0;").kind(0), i + 1);
        }
        fails("w2;a10,0;", 3, 1);
        fails("w2;e10,0;", 3, 1);
        fails("w2;q10,0;", 3, 1);
        fails("w2;z10,0;", 3, 1);
    }

    private static void girths() {
        Check.says("10 to 90");
        fails("w2;b9,0;", 4, 2);
        fails("w2;b09,0;", 4, 2);
        fails("w2;b0,0;", 4, 2);
        fails("w2;b91,0;", 4, 2);
        fails("w2;b99,0;", 4, 2);
        Check.due("10", Check.of("w2;b10,0;").tree(0, 0), 10);
        Check.due("90", Check.of("w2;b90,0;").tree(0, 0), 90);
    }

    private static void suns() {
        Check.says("0 to 9; TREES");
        fails("w2;b10,10;", 7, 2);
        fails("w2;b10,99;", 7, 2);
        Check.due("0", Check.of("w2;b10,0;").tree(0, 1), 0);
        Check.due("9", Check.of("w2;b10,9;").tree(0, 1), 9);
    }

    private static void trees() {
        Check.says("TREES 0 .. 3, 4 at most");
        BarkNames x = Check.of("w2;d10,0;d11,0;d12,0;d13,0;");
        Check.due("how many", x.count(1), 4);
        for (int tree = 0; tree < 4; tree++) {
            Check.due("TREE " + tree, x.tree(tree, 0), 10 + tree);
        }
        Check.due("TREE 4", x.tree(4, 0), Check.BAD);
        fails("w2;d10,0;d11,0;d12,0;d13,0;d14,0;", 27, 3);
    }

    private static void treeTold() {
        Check.says("a TREE told");
        fails("w2;c0,0,0,1;", 4, 2);
        reads("w2;d10,0;c0,0,0,1;", 1);
        fails("w2;d10,0;c1,0,0,1;", 10, 2);
        reads("w2;d10,0;d10,0;c1,0,0,1;", 1);
        fails("w2;d10,0;d10,0;c2,0,0,1;", 16, 2);
        reads(FOUR_TREES + "c3,0,0,1;", 1);
        fails(FOUR_TREES + "c4,0,0,1;", 28, 2);
        fails(FOUR_TREES + "c99,0,0,1;", 28, 2);
    }

    private static void letterNumbers() {
        Check.says("0 to 25; 0 to 59");
        Check.due("0", Check.of("w2;d10,0;c0,0,0,1;").cutHas(0, 1), 0);
        Check.due("25", Check.of("w2;d10,0;c0,25,0,1;").cutHas(0, 1), 25);
        fails("w2;d10,0;c0,26,0,1;", 12, 2);
        fails("w2;d10,0;c0,99,0,1;", 12, 2);
    }

    private static void places() {
        Check.says("0 to 59: sixtieths of the way round the bark");
        Check.due("0", Check.of("w2;d10,0;c0,0,0,1;").cutHas(0, 2), 0);
        Check.due("59", Check.of("w2;d10,0;c0,0,59,1;").cutHas(0, 2), 59);
        fails("w2;d10,0;c0,0,60,1;", 14, 2);
        fails("w2;d10,0;c0,0,99,1;", 14, 2);
    }

    private static void depths() {
        Check.says("1 to 20; CUTS");
        fails("w2;d10,0;c0,0,0,0;", 16, 2);
        Check.due("1", Check.of("w2;d10,0;c0,0,0,1;").cutHas(0, 3), 1);
        Check.due("20", Check.of("w2;d10,0;c0,0,0,20;").cutHas(0, 3), 20);
        fails("w2;d10,0;c0,0,0,21;", 16, 2);
        fails("w2;d10,0;c0,0,0,99;", 16, 2);
    }

    private static void cuts() {
        Check.says("CUTS 0 .. 7, 8 at most");
        BarkNames x = Check.of("w2;d10,0;" + EIGHT_CUTS);
        Check.due("how many", x.count(2), 8);
        for (int cut = 0; cut < 8; cut++) {
            Check.due("CUT " + cut, x.cutHas(cut, 2), cut);
        }
        Check.due("CUT 8", x.cutHas(8, 2), Check.BAD);
        fails("w2;d10,0;" + EIGHT_CUTS + "c0,0,8,1;", 81, 3);
    }

    private static void onePlace() {
        Check.says("no two of one TREE at one PLACE");
        fails("w2;d10,0;c0,0,7,1;c0,1,7,2;", 23, 2);
        fails("w2;d10,0;c0,0,7,1;c0,1,07,2;", 23, 2);
        fails("w2;d10,0;c0,0,0,1;c0,0,9,1;c0,1,0,2;", 32, 2);
        reads("w2;d10,0;d10,0;c0,0,7,1;c1,0,7,1;", 2);
        reads("w2;d10,0;c0,0,7,1;c0,0,8,1;", 2);
    }

    private static void inPlace() {
        Check.says("A WOOD that is read stands in place of the one before (none at first): YEAR 0; "
                + "no ACT can be undone; IMAGES and ROWS stay.");
        BarkNames x = new BarkNames();
        Check.due("none at first", x.left(0), Check.STATE);
        Check.read(x, "w2;b10,9;c0,0,0,9;");
        x.image(1);
        x.row(0, 2, 1);
        x.set(0, 0, 14);
        x.years(3);
        x.left(9);
        Check.due("another", Check.read(x, "w3;p10,4;"), 0);
        Check.due("YEAR", x.count(4), 0);
        Check.due("WIDE", x.count(5), 3);
        Check.due("CUTS", x.count(2), 0);
        Check.due("ACTS", x.count(6), 0);
        Check.due("undo", x.undo(), Check.STATE);
        Check.due("the ROW and its ITEM", x.which(0, 0, 0, 1, 1), 1 << 4);
        Check.due("the IMAGE that was kept", x.restore(1), 1);
        Check.due("its WIDE", x.count(5), 2);
        Check.due("the IMAGE that was not", x.restore(0), Check.STATE);
    }

    /** Each TOKEN of a text, in whose stead another one comes. */
    private static void cannotStandThere() {
        Check.says("1 it cannot stand there, or is none");
        String text = "w2;b40,9;c0,7,8,9;";
        int[] starts = {0, 1, 2, 3, 4, 6, 7, 8, 9, 10, 11, 12, 13, 14, 15, 16, 17};
        String[] others = {"a", "z", "w", ",", ";", " ", "A", "\n", "" + (char) 0, "" + (char) 128};
        for (int start : starts) {
            for (String other : others) {
                if (!text.startsWith(other, start)) {
                    fails(text.substring(0, start) + other + ";", start, 1);
                }
            }
        }
        for (String other : others) {
            fails(text + other, text.length(), 1);
        }
        fails("22;", 0, 1);
        fails("w2;22", 3, 1);
        fails("w2;b40,9;22", 9, 1);
        fails(text + "22", 18, 1);
    }

    /** Each NUMBER of a text, from 0 to 99. */
    private static void notAsTold() {
        Check.says("2 a NUMBER that is not as told");
        numbers("w", ";", 2, 9, 0);
        numbers("w2;b", ",9;", 10, 90, 0);
        numbers("w2;b40,", ";", 0, 9, 0);
        numbers("w2;b40,9;p10,1;c", ",7,8,9;", 0, 1, 1);
        numbers("w2;b40,9;c0,", ",8,9;", 0, 25, 1);
        numbers("w2;b40,9;c0,7,", ",9;", 0, 59, 1);
        numbers("w2;b40,9;c0,7,8,", ";", 1, 20, 1);
    }

    private static void numbers(String ahead, String behind, int least, int most, int cuts) {
        for (int number = 0; number <= 99; number++) {
            String text = ahead + number + behind;
            if (number >= least && number <= most) {
                reads(text, cuts);
            } else {
                fails(text, ahead.length(), 2);
            }
        }
    }

    private static void firstToken() {
        Check.says("FAULTS, the first TOKEN that has one");
        fails("w1;b9,10;", 1, 2);
        fails("w1x", 1, 2);
        fails("x1;", 0, 1);
        fails("w2;b9,10;", 4, 2);
        fails("w2;b9x", 4, 2);
        fails("w2;bx9", 4, 1);
        fails("w2;b10,10x", 7, 2);
        fails("w2;d10,0;c1,26,60,21;", 10, 2);
        fails("w2;d10,0;c0,26,60,21;", 12, 2);
        fails("w2;d10,0;c0,0,60,21;", 14, 2);
        fails("w2;d10,0;c0,0,0,21x", 16, 2);
    }

    private static void itsFirstByte() {
        Check.says("its first byte");
        fails("w10;", 1, 2);
        fails("w2;b91,0;", 4, 2);
        fails("w2;b10,10;", 7, 2);
        fails("w2;d10,0;c10,0,0,1;", 10, 2);
        fails("w2;d10,0;c0,26,0,1;", 12, 2);
        fails("w2;d10,0;c0,25,60,1;", 15, 2);
        fails("w2;d10,0;c0,25,59,21;", 18, 2);
    }

    private static void theLeast() {
        Check.says("of one TOKEN the least");
        // a tree behind the cuts cannot stand there, nor is there room for it
        fails(FOUR_TREES + "c0,0,0,1;d10,0;", 36, 1);
        fails(FOUR_TREES + EIGHT_CUTS + "d10,0;", 99, 1);
        // three figures are none, nor as told
        fails("w999;", 1, 1);
        fails("w2;d100,0;", 4, 1);
        fails("w2;d10,010;", 7, 1);
        fails("w2;d10,0;c0,0,7,1;c0,1,007,2;", 23, 1);
    }

    private static void threeFigures() {
        Check.says("a run of three figures or more, at its first");
        fails("w123;", 1, 1);
        fails("w1234;", 1, 1);
        fails("w000000002;", 1, 1);
        fails("w99999999999999999999;", 1, 1);
        fails("100", 0, 1);
        fails("w2;100", 3, 1);
        fails("w2;b100,0;", 4, 1);
        fails("w2;b10,000;", 7, 1);
        fails("w2;b10,0;c000,0,0,1;", 10, 1);
        fails("w2;b10,0;c0,000,0,1;", 12, 1);
        fails("w2;b10,0;c0,0,000,1;", 14, 1);
        fails("w2;b10,0;c0,0,0,001;", 16, 1);
    }

    private static void theEnd() {
        Check.says("the end: how many bytes there are");
        fails("", 0, 1);
        fails("w", 1, 1);
        fails("w2", 2, 1);
        fails("w2;b", 4, 1);
        fails("w2;b10", 6, 1);
        fails("w2;b10,", 7, 1);
        fails("w2;b10,0", 8, 1);
        fails("w2;b10,0;c", 10, 1);
        fails("w2;b10,0;c0", 11, 1);
        fails("w2;b10,0;c0,", 12, 1);
        fails("w2;b10,0;c0,0", 13, 1);
        fails("w2;b10,0;c0,0,", 14, 1);
        fails("w2;b10,0;c0,0,59", 16, 1);
        fails("w2;b10,0;c0,0,59,", 17, 1);
        fails("w2;b10,0;c0,0,59,20", 19, 1);
    }

    /** What an earlier tape held is not read behind the end of a shorter one. */
    private static void endBehindALongerTape() {
        Check.says("The tape, empty then, is read");
        BarkNames x = new BarkNames();
        Check.read(x, "w2;b10,0;c0,0,55,15;c0,0,20,20;");
        Check.due("a number's end", Check.read(x, "w2;b10,0;c0,0,5"), -1000115);
        Check.read(x, "w2;b10,05;");
        Check.due("a number of one figure", Check.read(x, "w2;b10,0"), -1000108);
        Check.read(x, "w200;");
        Check.due("two figures, ahead of what were a third", Check.read(x, "w02"), -1000103);
        Check.due("its fault", x.fault(), 1);
        Check.read(x, "w2;b10,0;");
        Check.due("a law alone", Check.read(x, "w2;"), 0);
        Check.due("without the tree of the earlier one", x.count(1), 0);
        Check.read(x, "w2;");
        Check.due("an empty tape", x.wood(), -1000100);
    }

    private static void roomForTrees() {
        Check.says("3 a tree, a cut more than there is room for (its letter)");
        reads(FOUR_TREES, 0);
        for (char sort : "boypd".toCharArray()) {
            fails(FOUR_TREES + sort + "10,0;", 27, 3);
            fails(FOUR_TREES + sort, 27, 3);
            fails(FOUR_TREES + sort + "x", 27, 3);
        }
        fails(FOUR_TREES + "w", 27, 1);
    }

    private static void roomForCuts() {
        Check.says("3 a tree, a cut more than there is room for (its letter)");
        reads(FOUR_TREES + EIGHT_CUTS, 8);
        fails(FOUR_TREES + EIGHT_CUTS + "c0,0,8,1;", 99, 3);
        fails(FOUR_TREES + EIGHT_CUTS + "c", 99, 3);
        fails(FOUR_TREES + EIGHT_CUTS + "c9", 99, 3);
        fails(FOUR_TREES + EIGHT_CUTS + ";", 99, 1);
    }

    private static void tapeIsEmptyThen() {
        Check.says("The tape, empty then, is read: how many CUTS there are.");
        BarkNames x = new BarkNames();
        Check.due("two cuts", Check.read(x, "w2;d10,0;c0,0,0,1;c0,0,1,1;"), 2);
        Check.due("bytes", x.count(7), 0);
        Check.due("read again", x.wood(), -1000100);
        Check.due("the wood stays", x.count(2), 2);
    }

    private static void allStays() {
        Check.says("-1000100 less the place of a FAULT: all stays, but the tape is empty then, and fault() tells this one.");
        BarkNames x = Check.of("w5;b40,9;c0,1,0,6;");
        x.image(0);
        x.years(1);
        x.row(0, 0, 3);
        x.ask(0, 0);
        Check.due("a fault far behind", Check.read(x, "w9;p10,1;p11,2;c0,0,0,1;c1,0,0,99;"), -1000131);
        Check.due("fault()", x.fault(), 2);
        Check.due("the tape", x.count(7), 0);
        int[] stay = {1, 1, 1, 1, 1, 5, 1, 0};
        for (int what = 0; what < stay.length; what++) {
            Check.due("count(" + what + ")", x.count(what), stay[what]);
        }
        Check.due("the girth", x.tree(0, 0), 44);
        Check.due("the kind", x.kind(0), 1);
        Check.due("the depth", x.cutHas(0, 3), 5);
        Check.due("the trace", x.trace(0), 11);
        Check.due("the act", x.undo(), 0);
        Check.due("the girth ahead of it", x.tree(0, 0), 40);
        Check.due("the image", x.restore(0), 1);
    }

    private static void latestFault() {
        Check.says("The number of the latest FAULT; 0 before one.");
        BarkNames x = new BarkNames();
        Check.due("before one", x.fault(), 0);
        Check.read(x, "w2;");
        Check.due("before one, behind a wood", x.fault(), 0);
        Check.read(x, "w1;");
        Check.due("2", x.fault(), 2);
        Check.read(x, "x");
        Check.due("1", x.fault(), 1);
        Check.read(x, FOUR_TREES + "d");
        Check.due("3", x.fault(), 3);
        Check.read(x, "w2;");
        Check.due("3 still, behind a wood", x.fault(), 3);
    }
}
