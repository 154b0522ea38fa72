/** Promises 9 to 17, 28 and 29: years, cuts, acts undone, what stands now, images. */
public final class ActsTest {
    public static void main(String[] args) {
        years();
        yearsRefused();
        growthEnds();
        oaksAndBirches();
        cut();
        anew();
        scrape();
        undo();
        actsForgotten();
        tree();
        cutHas();
        apart();
        together();
        images();
        Check.end();
    }

    private static void years() {
        BarkNames x = Check.of(Check.FOUR);
        Check.due("years(1)", x.years(1), 7);
        Check.due("beech", x.tree(0, 0), 44);
        Check.due("oak", x.tree(1, 0), 61);
        Check.due("birch, year 0", x.tree(2, 0), 33);
        Check.due("pine", x.tree(3, 0), 23);
        Check.due("beech's depth", x.cutHas(0, 3), 5);
        Check.due("oak's depth, year 0", x.cutHas(4, 3), 4);
        Check.due("pine's depth", x.cutHas(6, 3), 0);
        Check.due("the year", x.count(4), 1);
        Check.due("years(1) again", x.years(1), 6);
        Check.due("oak's depth, year 1", x.cutHas(4, 3), 3);
        Check.due("birch, year 1", x.tree(2, 0), 34);
        Check.due("healed for good", x.cutHas(6, 3), 0);
        Check.due("years(20)", x.years(20), 0);
        Check.due("the year", x.count(4), 22);
        Check.due("each an act", x.count(6), 22);
        Check.due("none is less than healed", x.cutHas(0, 3), 0);
        x = Check.of("w5;d10,9;b10,5;b10,6;p10,2;c0,0,0,1;c1,0,0,1;c2,0,0,1;c3,0,0,1;");
        Check.due("by 3 or more", x.years(1), 3);
        Check.due("dead, 1 and 5 by 3, pine 2: these stay", x.left(0), 1 | 2 | 8);
        Check.due("dead", x.tree(0, 0), 10);
        Check.due("beech of 5", x.tree(1, 0), 12);
        Check.due("beech of 6", x.tree(2, 0), 13);
        Check.due("pine of 2", x.tree(3, 0), 12);
    }

    private static void yearsRefused() {
        BarkNames x = Check.of("w5;");
        Check.due("years(0)", x.years(0), Check.BAD);
        Check.due("years(-1)", x.years(-1), Check.BAD);
        Check.due("years(21)", x.years(21), Check.BAD);
        Check.due("nothing went by", x.count(4), 0);
        Check.due("no act", x.count(6), 0);
        for (int i = 0; i < 49; i++) {
            x.years(20);
        }
        Check.due("year 980", x.count(4), 980);
        Check.due("beyond 999", x.years(20), Check.FULL);
        Check.due("BAD ahead of FULL", x.years(21), Check.BAD);
        Check.due("to 999", x.years(19), 0);
        Check.due("year 999", x.count(4), 999);
        Check.due("one beyond", x.years(1), Check.FULL);
        Check.due("acts", x.count(6), 24);
    }

    private static void growthEnds() {
        BarkNames x = Check.of("w5;p90,9;b90,9;c0,0,0,1;c0,1,20,1;");
        for (int i = 0; i < 5; i++) {
            x.years(20);
        }
        Check.due("pine, year 100", x.tree(0, 0), 990);
        Check.due("growth to 999", x.tree(0, 3), 9);
        x.cut(0, 2, 40, 20);
        x.years(1);
        Check.due("pine, year 101", x.tree(0, 0), 999);
        Check.due("growth at 999", x.tree(0, 3), 0);
        Check.due("depth behind it", x.cutHas(2, 3), 19);
        x.years(3);
        Check.due("999 at most", x.tree(0, 0), 999);
        Check.due("depth, as it did not grow", x.cutHas(2, 3), 19);
        Check.due("foretold", x.girth(0, 50), 999);
        x = Check.of("w5;p90,7;");
        for (int i = 0; i < 6; i++) {
            x.years(20);
        }
        x.years(9);
        Check.due("pine of 7, year 129", x.tree(0, 0), 993);
        x.cut(0, 0, 0, 20);
        Check.due("growth, 6 of 7", x.tree(0, 3), 6);
        x = Check.of("w5;p88,7;");
        for (int i = 0; i < 6; i++) {
            x.years(20);
        }
        x.years(10);
        Check.due("pine of 7, year 130", x.tree(0, 0), 998);
        x.cut(0, 0, 0, 20);
        Check.due("growth, 1 of 7", x.tree(0, 3), 1);
        x.years(1);
        Check.due("depth, as it grew by 1", x.cutHas(0, 3), 20);
    }

    private static void oaksAndBirches() {
        BarkNames x = Check.of("w5;o10,9;o10,2;y10,2;o10,3;c0,0,0,9;c1,0,0,9;c2,0,0,9;c3,0,0,9;");
        int[] depths = {9, 9, 8, 9, 8, 9, 8, 8, 8, 9, 7, 8, 7, 9, 7, 7};
        int[] girths = {12, 10, 13, 11, 14, 10, 14, 12, 16, 10, 17, 13, 18, 10, 18, 14};
        for (int year = 0; year < 4; year++) {
            x.years(1);
            for (int tree = 0; tree < 4; tree++) {
                String of = " of tree " + tree + " behind year " + year;
                Check.due("depth" + of, x.cutHas(tree, 3), depths[4 * year + tree]);
                Check.due("girth" + of, x.tree(tree, 0), girths[4 * year + tree]);
            }
        }
    }

    private static void cut() {
        BarkNames x = Check.of("w5;p10,3;d10,0;c0,4,7,1;");
        Check.due("cut", x.cut(1, 25, 59, 20), 1);
        Check.due("its tree", x.cutHas(1, 0), 1);
        Check.due("its letter", x.cutHas(1, 1), 25);
        Check.due("its place", x.cutHas(1, 2), 59);
        Check.due("its depth", x.cutHas(1, 3), 20);
        Check.due("an act", x.count(6), 1);
        Check.due("cut(2, ..)", x.cut(2, 0, 0, 1), Check.BAD);
        Check.due("cut(-1, ..)", x.cut(-1, 0, 0, 1), Check.BAD);
        Check.due("letter 26", x.cut(0, 26, 0, 1), Check.BAD);
        Check.due("letter -1", x.cut(0, -1, 0, 1), Check.BAD);
        Check.due("place 60", x.cut(0, 0, 60, 1), Check.BAD);
        Check.due("place -1", x.cut(0, 0, -1, 1), Check.BAD);
        Check.due("depth 0", x.cut(0, 0, 0, 0), Check.BAD);
        Check.due("depth 21", x.cut(0, 0, 0, 21), Check.BAD);
        Check.due("there is one", x.cut(0, 0, 7, 1), Check.STATE);
        Check.due("on the other tree there is none", x.cut(1, 0, 7, 1), 2);
        x.years(1);
        Check.due("there is one, healed", x.cut(0, 0, 7, 1), Check.STATE);
        for (int i = 3; i < 8; i++) {
            Check.due("cut number " + i, x.cut(0, 0, i + 10, 1), i);
        }
        Check.due("a ninth", x.cut(0, 0, 30, 1), Check.FULL);
        Check.due("STATE ahead of FULL", x.cut(0, 0, 7, 1), Check.STATE);
        Check.due("BAD ahead of STATE", x.cut(0, 26, 7, 1), Check.BAD);
        Check.due("acts", x.count(6), 8);
    }

    private static void anew() {
        BarkNames x = Check.of("w5;p10,3;c0,4,7,1;c0,4,8,5;");
        Check.due("anew(1, 20)", x.anew(1, 20), 5);
        Check.due("depth", x.cutHas(1, 3), 20);
        Check.due("anew(1, 1)", x.anew(1, 1), 20);
        Check.due("anew(1, 1), nothing becomes another", x.anew(1, 1), 1);
        Check.due("acts", x.count(6), 3);
        Check.due("depth 0", x.anew(1, 0), Check.BAD);
        Check.due("depth 21", x.anew(1, 21), Check.BAD);
        Check.due("cut 2", x.anew(2, 1), Check.BAD);
        Check.due("cut -1", x.anew(-1, 1), Check.BAD);
        x.years(1);
        Check.due("a healed one", x.anew(0, 3), Check.STATE);
        Check.due("BAD ahead of STATE", x.anew(0, 21), Check.BAD);
        Check.due("acts", x.count(6), 4);
        Check.due("healed for good", x.cutHas(0, 3), 0);
    }

    private static void scrape() {
        BarkNames x = Check.of("w5;d10,0;p10,9;c0,1,1,1;c1,2,2,2;c0,3,3,3;");
        x.years(2);
        Check.due("scrape(3)", x.scrape(3), Check.BAD);
        Check.due("scrape(-1)", x.scrape(-1), Check.BAD);
        Check.due("scrape(1), a healed one", x.scrape(1), 2);
        Check.due("tree of the one behind", x.cutHas(1, 0), 0);
        Check.due("letter of the one behind", x.cutHas(1, 1), 3);
        Check.due("place of the one behind", x.cutHas(1, 2), 3);
        Check.due("depth of the one behind", x.cutHas(1, 3), 3);
        Check.due("no such cut any more", x.cutHas(2, 0), Check.BAD);
        Check.due("its place is free", x.cut(1, 0, 2, 1), 2);
        Check.due("scrape(2), the last", x.scrape(2), 2);
        Check.due("scrape(0)", x.scrape(0), 1);
        Check.due("letter of the one behind", x.cutHas(0, 1), 3);
        Check.due("scrape(0)", x.scrape(0), 0);
        Check.due("scrape of none", x.scrape(0), Check.BAD);
        Check.due("acts", x.count(6), 7);
    }

    private static void undo() {
        BarkNames x = Check.of("w5;p10,9;c0,1,1,1;c0,2,2,2;");
        Check.due("none", x.undo(), Check.STATE);
        x.years(2);
        x.cut(0, 3, 3, 3);
        x.anew(2, 9);
        x.scrape(0);
        Check.due("acts", x.count(6), 5);
        Check.due("undo of scrape", x.undo(), 4);
        Check.due("letter of cut 0", x.cutHas(0, 1), 1);
        Check.due("it is healed as it was", x.cutHas(0, 3), 0);
        Check.due("cuts", x.count(2), 3);
        Check.due("undo of anew", x.undo(), 3);
        Check.due("depth", x.cutHas(2, 3), 3);
        Check.due("undo of cut", x.undo(), 2);
        Check.due("cuts", x.count(2), 2);
        Check.due("undo of a year", x.undo(), 1);
        Check.due("girth", x.tree(0, 0), 19);
        Check.due("depth", x.cutHas(1, 3), 1);
        Check.due("year", x.count(4), 1);
        Check.due("undo of a year", x.undo(), 0);
        Check.due("girth", x.tree(0, 0), 10);
        Check.due("depths", x.cutHas(0, 3) + 10 * x.cutHas(1, 3), 21);
        Check.due("year", x.count(4), 0);
        Check.due("none", x.undo(), Check.STATE);
        x.anew(1, 2);
        Check.due("undo of what changed nothing", x.undo(), 0);
        x.anew(5, 2);
        x.cut(0, 0, 1, 1);
        x.scrape(7);
        Check.due("what is refused is no act", x.undo(), Check.STATE);
    }

    private static void actsForgotten() {
        BarkNames x = Check.of("w5;p10,1;c0,1,1,1;");
        x.anew(0, 5);
        x.years(20);
        x.years(3);
        Check.due("24 acts", x.count(6), 24);
        x.years(1);
        Check.due("24 acts at most", x.count(6), 24);
        for (int left = 23; left >= 0; left--) {
            Check.due("undo to " + left, x.undo(), left);
        }
        Check.due("none more", x.undo(), Check.STATE);
        Check.due("the oldest is forgotten", x.cutHas(0, 3), 5);
        Check.due("girth", x.tree(0, 0), 10);
        Check.due("acts anew", x.years(2), 1);
        Check.due("undo", x.undo(), 1);
        Check.due("girth", x.tree(0, 0), 11);
    }

    private static void tree() {
        BarkNames x = Check.of(Check.FOUR);
        int[] due = {40, 9, 15, 4, 60, 8, 48, 1, 30, 2, 0, 3, 20, 3, 192, 3};
        for (int i = 0; i < 16; i++) {
            Check.due("tree(" + i / 4 + ", " + i % 4 + ")", x.tree(i / 4, i % 4), due[i]);
        }
        Check.due("tree(4, 0)", x.tree(4, 0), Check.BAD);
        Check.due("tree(-1, 0)", x.tree(-1, 0), Check.BAD);
        Check.due("tree(0, 4)", x.tree(0, 4), Check.BAD);
        Check.due("tree(0, -1)", x.tree(0, -1), Check.BAD);
        x.years(1);
        Check.due("cuts not healed", x.tree(3, 2), 128);
        Check.due("a birch in an odd year", x.tree(2, 3), 1);
    }

    private static void cutHas() {
        BarkNames x = Check.of(Check.FOUR);
        int[] due = {1, 5, 59, 4};
        for (int what = 0; what < 4; what++) {
            Check.due("cutHas(4, " + what + ")", x.cutHas(4, what), due[what]);
        }
        Check.due("cutHas(8, 0)", x.cutHas(8, 0), Check.BAD);
        Check.due("cutHas(-1, 0)", x.cutHas(-1, 0), Check.BAD);
        Check.due("cutHas(0, 4)", x.cutHas(0, 4), Check.BAD);
        Check.due("cutHas(0, -1)", x.cutHas(0, -1), Check.BAD);
    }

    private static void apart() {
        BarkNames x = Check.of(Check.FOUR);
        Check.due("apart(0, 1)", x.apart(0, 1), 3);
        Check.due("apart(1, 0)", x.apart(1, 0), 3);
        Check.due("apart(0, 3), half round", x.apart(0, 3), 20);
        Check.due("apart(4, 5), the shorter way", x.apart(4, 5), 3);
        Check.due("apart(6, 7), half round", x.apart(6, 7), 10);
        Check.due("two trees", x.apart(0, 4), Check.NONE);
        Check.due("alike", x.apart(0, 0), Check.BAD);
        Check.due("apart(0, 8)", x.apart(0, 8), Check.BAD);
        Check.due("apart(-1, 0)", x.apart(-1, 0), Check.BAD);
        x.years(1);
        Check.due("one healed", x.apart(6, 7), Check.NONE);
        Check.due("one healed, told the other way", x.apart(7, 6), Check.NONE);
        Check.due("alike, healed", x.apart(6, 6), Check.BAD);
        Check.due("now", x.apart(0, 1), 3);
        x.years(1);
        Check.due("now, thicker", x.apart(0, 1), 4);
        x = Check.of("w2;d59,0;c0,0,0,1;c0,0,1,1;c0,0,31,1;");
        Check.due("cut to 0", x.apart(0, 1), 0);
        Check.due("29 places", x.apart(0, 2), 28);
    }

    private static void together() {
        BarkNames x = Check.of(Check.FOUR);
        Check.due("together(0, 1)", x.together(0, 1), 1);
        Check.due("together(0, 2), by 1", x.together(0, 2), 1);
        Check.due("together(2, 0), by 1", x.together(2, 0), 1);
        Check.due("together(2, 3)", x.together(2, 3), 0);
        Check.due("two trees", x.together(0, 4), Check.BAD);
        Check.due("alike", x.together(1, 1), Check.BAD);
        Check.due("together(0, 8)", x.together(0, 8), Check.BAD);
        Check.due("together(-1, 0)", x.together(-1, 0), Check.BAD);
        x.scrape(1);
        Check.due("without the one between", x.together(0, 1), 0);
        x.undo();
        x.anew(1, 1);
        x.years(1);
        Check.due("the one between is healed", x.together(0, 2), 0);
        Check.due("one is healed", x.together(0, 1), 0);
        x = Check.of("w2;d60,0;c0,0,0,1;c0,0,2,1;c0,0,5,1;");
        Check.due("WIDE", x.together(0, 1), 1);
        Check.due("1 more than WIDE", x.together(1, 2), 0);
        x = Check.of("w2;d60,0;c0,0,30,1;c0,1,38,1;c0,2,36,1;c0,3,32,1;c0,4,34,1;c0,4,28,1;");
        Check.due("by three", x.together(0, 1), 1);
        Check.due("by three, the other way", x.together(1, 0), 1);
        Check.due("by four", x.together(5, 1), 1);
        x = Check.of("w2;d60,0;c0,0,1,1;c0,1,57,1;c0,2,59,1;");
        Check.due("by one, round the bark", x.together(0, 1), 1);
    }

    private static void images() {
        BarkNames x = Check.of(Check.FOUR);
        Check.due("image(2)", x.image(2), Check.BAD);
        Check.due("image(-1)", x.image(-1), Check.BAD);
        Check.due("restore(0), none kept", x.restore(0), Check.STATE);
        Check.due("restore(2)", x.restore(2), Check.BAD);
        Check.due("restore(-1)", x.restore(-1), Check.BAD);
        Check.due("image(0)", x.image(0), 1);
        x.years(5);
        x.scrape(0);
        Check.due("image(1)", x.image(1), 1);
        x.years(1);
        Check.due("acts", x.count(6), 7);
        Check.due("restore(0)", x.restore(0), 1);
        Check.due("no act", x.undo(), Check.STATE);
        Check.due("girth", x.tree(0, 0), 40);
        Check.due("year", x.count(4), 0);
        Check.due("cuts", x.left(0), 255);
        Check.read(x, "w9;d11,1;");
        Check.due("restore(1)", x.restore(1), 1);
        Check.due("law", x.count(5), 5);
        Check.due("cuts", x.count(2), 7);
        Check.due("year", x.count(4), 5);
        Check.due("girth", x.tree(0, 0), 60);
        x.years(1);
        Check.due("an image is kept as it was", x.restore(1), 1);
        Check.due("year", x.count(4), 5);
        x.restore(0);
        Check.due("image(1) in place of another", x.image(1), 1);
        x.years(1);
        x.restore(1);
        Check.due("year", x.count(4), 0);
        BarkNames fresh = new BarkNames();
        Check.due("image(0) of no wood", fresh.image(0), Check.STATE);
        Check.due("restore(0) of no wood", fresh.restore(0), Check.STATE);
    }
}
