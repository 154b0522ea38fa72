/** The edges that the document names for years, cuts and acts (promises 9 to 17), a sentence at a time. */
public final class EdgesOfYearsTest {
    private static final int MIN = Integer.MIN_VALUE, MAX = Integer.MAX_VALUE;

    public static void main(String[] args) {
        girthAtMost();
        beech();
        oak();
        birch();
        pine();
        dead();
        closing();
        closingAtMost();
        closingOfOaks();
        healed();
        shorterWay();
        cutTowardsZero();
        wide();
        yearIsOneMore();
        cutsOfLetters();
        others();
        actsKept();
        latestFirst();
        nothingBecomesAnother();
        behindAllOthers();
        scrapedOff();
        yearsRefused();
        yearsFull();
        yearsAnswer();
        cutRefused();
        cutThereIsOne();
        cutFull();
        anewRefused();
        scrapeRefused();
        undoOfNone();
        treeAsked();
        cutAsked();
        apartNone();
        apartRefused();
        togetherRefused();
        Check.end();
    }

    private static void pass(BarkNames x, int years) {
        for (int left = years; left > 0; left -= 20) {
            x.years(Math.min(left, 20));
        }
    }

    private static void girthAtMost() {
        Check.says("each tree GROWS, GIRTH being more (999 at most)");
        // 90 and 9 a year: 990 behind 100; 85 and 7: 995 behind 130; 90 and 3 or 1: 990 behind 450
        BarkNames x = Check.of("w2;p90,9;p85,7;b90,9;y90,1;");
        pass(x, 100);
        Check.due("990 and 9 more", x.girth(0, 1), 999);
        Check.due("990 and 18 more", x.girth(0, 2), 999);
        x.years(1);
        Check.due("999", x.tree(0, 0), 999);
        Check.due("it grows no more", x.tree(0, 3), 0);
        pass(x, 29);
        Check.due("999 still", x.tree(0, 0), 999);
        Check.due("995", x.tree(1, 0), 995);
        Check.due("by 4, not 7", x.tree(1, 3), 4);
        x.years(1);
        Check.due("995 and 4", x.tree(1, 0), 999);
        pass(x, 96);
        Check.due("a beech, 90 and 4 a year", x.tree(2, 0), 998);
        Check.due("by 1, not 4", x.tree(2, 3), 1);
        x.years(1);
        Check.due("998 and 1", x.tree(2, 0), 999);
        pass(x, 226);
        Check.due("a birch, 90 and 4 in two years", x.tree(3, 0), 998);
        Check.due("by 1, not 3", x.tree(3, 3), 1);
        x.years(2);
        Check.due("998 and 1, and none", x.tree(3, 0), 999);
    }

    /** What a tree of each SUN grows, in an even year and in an odd one. */
    private static void grows(char sort, int[] even, int[] odd) {
        for (int sun = 0; sun <= 9; sun++) {
            BarkNames x = Check.of("w2;" + sort + "10," + sun + ";");
            Check.due(sort + " of sun " + sun + ", even", x.tree(0, 3), even[sun]);
            x.years(1);
            Check.due(sort + " of sun " + sun + ", girth", x.tree(0, 0), 10 + even[sun]);
            Check.due(sort + " of sun " + sun + ", odd", x.tree(0, 3), odd[sun]);
            x.years(1);
            Check.due(sort + " of sun " + sun + ", girth", x.tree(0, 0), 10 + even[sun] + odd[sun]);
        }
    }

    private static void beech() {
        Check.says("of a beech 1 more than a third (cut) of SUN");
        int[] by = {1, 1, 1, 2, 2, 2, 3, 3, 3, 4};
        grows('b', by, by);
    }

    private static void oak() {
        Check.says("of an oak half of that (cut)");
        int[] by = {0, 0, 0, 1, 1, 1, 1, 1, 1, 2};
        grows('o', by, by);
    }

    private static void birch() {
        Check.says("of a birch so as a beech, but 2 more, if YEAR is even as it begins");
        int[] odd = {1, 1, 1, 2, 2, 2, 3, 3, 3, 4};
        int[] even = {3, 3, 3, 4, 4, 4, 5, 5, 5, 6};
        grows('y', even, odd);
    }

    private static void pine() {
        Check.says("of a pine SUN");
        int[] by = {0, 1, 2, 3, 4, 5, 6, 7, 8, 9};
        grows('p', by, by);
    }

    private static void dead() {
        Check.says("of a dead one nothing");
        grows('d', new int[10], new int[10]);
    }

    private static void closing() {
        Check.says("DEPTH of each CUT of a tree that GREW by 3 or more");
        // each sort that grows by 2 beside one that grows by 3
        BarkNames x = Check.of("w2;b10,5;b10,6;p10,2;p10,3;c0,0,0,9;c1,0,0,9;c2,0,0,9;c3,0,0,9;c3,0,1,9;");
        x.years(1);
        int[] depths = {9, 8, 9, 8, 8};
        for (int cut = 0; cut < depths.length; cut++) {
            Check.due("depth of cut " + cut, x.cutHas(cut, 3), depths[cut]);
        }
        x = Check.of("w2;y10,2;y10,5;y10,6;d10,9;c0,0,0,9;c1,0,0,9;c2,0,0,9;c3,0,0,9;");
        x.years(1);
        Check.due("a birch by 3, even", x.cutHas(0, 3), 8);
        Check.due("a dead one", x.cutHas(3, 3), 9);
        x.years(1);
        Check.due("a birch by 1, odd", x.cutHas(0, 3), 8);
        Check.due("a birch by 2, odd", x.cutHas(1, 3), 8);
        Check.due("a birch by 3, odd", x.cutHas(2, 3), 7);
    }

    private static void closingAtMost() {
        Check.says("(as GIRTH did: at 999 it does not)");
        // 90 and 9 a year: 990 behind 100; 88 and 7: 998 behind 130; 86 and 7: 996 behind 130
        BarkNames x = Check.of("w2;p90,9;p88,7;p86,7;");
        pass(x, 100);
        x.cut(0, 0, 0, 9);
        x.years(1);
        Check.due("to 999, by 9", x.cutHas(0, 3), 8);
        x.years(1);
        Check.due("at 999", x.cutHas(0, 3), 8);
        pass(x, 28);
        x.cut(1, 0, 0, 9);
        x.cut(2, 0, 0, 9);
        Check.due("998", x.tree(1, 0), 998);
        Check.due("996", x.tree(2, 0), 996);
        x.years(1);
        Check.due("to 999, by 1 of 7", x.cutHas(1, 3), 9);
        Check.due("to 999, by 3 of 7", x.cutHas(2, 3), 8);
        Check.due("at 999 in 50 years", x.left(50), 7);
        Check.due("how deep at 999", x.deep(0, 50), 1);
    }

    private static void closingOfOaks() {
        Check.says("of an oak, if it GREW by 1 or more, but only if YEAR is odd as it begins (by 3 or more, too)");
        BarkNames x = Check.of("w2;o10,2;o10,3;o10,9;c0,0,0,9;c1,0,0,9;c2,0,0,9;");
        int[][] depths = {{9, 9, 9}, {9, 8, 8}, {9, 8, 8}, {9, 7, 7}};
        for (int year = 0; year < depths.length; year++) {
            x.years(1);
            for (int cut = 0; cut < 3; cut++) {
                Check.due("behind year " + year + ", cut " + cut, x.cutHas(cut, 3), depths[year][cut]);
            }
        }
        // 89 and 2 a year: 999 behind 455, at which it grows no more
        x = Check.of("w2;o89,9;");
        pass(x, 455);
        x.cut(0, 0, 0, 9);
        Check.due("999", x.tree(0, 0), 999);
        Check.due("an odd year", x.count(4), 455);
        x.years(1);
        Check.due("it did not grow", x.cutHas(0, 3), 9);
    }

    private static void healed() {
        Check.says("What has DEPTH 0 is HEALED: it can be read no more, for good.");
        BarkNames x = Check.of("w9;p10,9;c0,0,0,1;c0,0,1,2;");
        x.years(1);
        Check.due("depth", x.cutHas(0, 3), 0);
        Check.due("not read", x.tree(0, 2), 2);
        Check.due("not cut anew", x.anew(0, 20), Check.STATE);
        x.years(20);
        Check.due("not less than 0", x.cutHas(0, 3), 0);
        Check.due("one more, not less than 0", x.cutHas(1, 3), 0);
        Check.due("it is there still", x.count(2), 2);
        Check.due("how many can be read", x.count(3), 0);
    }

    private static void shorterWay() {
        Check.says("by PLACES the shorter way round (0 to 30)");
        BarkNames x = Check.of("w2;d60,0;c0,0,0,1;c0,0,1,1;c0,0,29,1;c0,0,30,1;c0,0,31,1;c0,0,59,1;");
        int[] from0 = {0, 1, 29, 30, 29, 1};
        int[] from59 = {1, 2, 30, 29, 28, 0};
        for (int cut = 1; cut < 6; cut++) {
            Check.due("0 and " + cut, x.apart(0, cut), from0[cut]);
            Check.due(cut + " and 0", x.apart(cut, 0), from0[cut]);
        }
        for (int cut = 0; cut < 5; cut++) {
            Check.due("5 and " + cut, x.apart(5, cut), from59[cut]);
            Check.due(cut + " and 5", x.apart(cut, 5), from59[cut]);
        }
    }

    private static void cutTowardsZero() {
        Check.says("times GIRTH by 60 (cut)");
        BarkNames x = Check.of("w2;d59,0;d61,0;d90,0;c0,0,0,1;c0,0,1,1;c0,0,30,1;c1,0,0,1;c1,0,59,1;c2,0,0,1;c2,0,1,1;c2,0,3,1;");
        Check.due("59 by 60", x.apart(0, 1), 0);
        Check.due("30 * 59 by 60", x.apart(0, 2), 29);
        Check.due("61 by 60", x.apart(3, 4), 1);
        Check.due("90 by 60", x.apart(5, 6), 1);
        Check.due("180 by 60", x.apart(6, 7), 3);
        Check.due("270 by 60", x.apart(5, 7), 4);
    }

    private static void wide() {
        Check.says("They can be READ AS ONE, if d is WIDE or less.");
        for (int wide = 2; wide <= 9; wide++) {
            BarkNames x = Check.of("w" + wide + ";d60,0;c0,0,30,1;c0,0," + (30 + wide) + ",1;c0,0," + (29 - wide) + ",1;");
            Check.due("WIDE " + wide, x.together(0, 1), 1);
            Check.due("1 more than WIDE " + wide, x.together(0, 2), 0);
        }
        BarkNames x = Check.of("w2;d90,0;c0,0,0,1;c0,0,1,1;c0,0,58,1;");
        Check.due("1.5 apart", x.together(0, 1), 1);
        Check.due("3 apart", x.together(0, 2), 0);
    }

    private static void yearIsOneMore() {
        Check.says("YEAR is 1 more.");
        BarkNames x = Check.of("w2;");
        x.years(1);
        Check.due("1", x.count(4), 1);
        x.years(20);
        Check.due("21", x.count(4), 21);
        x.left(50);
        Check.due("21 still, when years are foretold", x.count(4), 21);
    }

    private static void cutsOfLetters() {
        Check.says("Two LETTERS of a TREE are TOGETHER, if CUTS of these can be read as one");
        BarkNames x = Check.of("w2;d60,0;c0,5,0,1;c0,5,30,1;c0,7,1,1;");
        Check.due("of two LETTERS, 1 apart", x.together(0, 2), 1);
        Check.due("of one LETTER, 30 apart", x.together(0, 1), 0);
        Check.due("of two LETTERS, 29 apart", x.together(1, 2), 0);
        Check.due("how many sets", x.rings(0, 0), 2);
    }

    private static void others() {
        Check.says("or if there are others between them, each of which can be read as one with the next (by whatever way)");
        BarkNames x = Check.of("w2;d60,0;c0,0,0,1;c0,0,14,1;c0,0,12,1;c0,0,2,1;c0,0,10,1;c0,0,4,1;c0,0,8,1;c0,0,6,1;");
        Check.due("six between", x.together(0, 1), 1);
        Check.due("six between, the other way", x.together(1, 0), 1);
        x.scrape(7);
        Check.due("one of them is gone", x.together(0, 1), 0);
        x.undo();
        Check.due("it is back", x.together(0, 1), 1);
        x = Check.of("w2;d60,0;c0,0,0,1;c0,0,4,1;c0,0,58,1;c0,0,56,1;");
        Check.due("none between the shorter way", x.together(0, 1), 0);
        // the longer way round, 12 PLACES a step
        x = Check.of("w2;d10,0;c0,0,0,1;c0,0,24,1;c0,0,48,1;c0,0,36,1;");
        Check.due("by the longer way", x.together(0, 1), 1);
        x = Check.of("w2;d60,0;d60,0;c0,0,0,1;c0,0,4,1;c1,0,2,1;");
        Check.due("one between on another TREE", x.together(0, 1), 0);
        x = Check.of("w2;p60,3;c0,0,0,9;c0,0,4,9;c0,0,2,1;");
        Check.due("one between", x.together(0, 1), 1);
        x.years(1);
        Check.due("it is HEALED", x.together(0, 1), 0);
    }

    private static void actsKept() {
        Check.says("24 at most are kept, of more the oldest is forgotten");
        BarkNames x = Check.of("w2;p10,1;c0,0,0,1;");
        for (int act = 1; act <= 24; act++) {
            x.anew(0, act % 20 + 1);
            Check.due("kept behind act " + act, x.count(6), act);
        }
        x.anew(0, 7);
        Check.due("kept behind act 25", x.count(6), 24);
        for (int act = 24; act >= 1; act--) {
            Check.due("undone to " + (act - 1), x.undo(), act - 1);
            Check.due("depth behind act " + act, x.cutHas(0, 3), act % 20 + 1);
        }
        Check.due("the first act stays", x.undo(), Check.STATE);
        // a year is an act each, so 25 forget the first
        x = Check.of("w2;p10,1;");
        x.years(20);
        x.years(5);
        for (int act = 0; act < 24; act++) {
            x.undo();
        }
        Check.due("a year stays", x.count(4), 1);
        Check.due("its girth stays", x.tree(0, 0), 11);
        Check.due("none more", x.undo(), Check.STATE);
        // round the 24 once more from there
        x.years(20);
        Check.due("20 more", x.count(6), 20);
        Check.due("the latest of them", x.undo(), 19);
        Check.due("its year", x.count(4), 20);
    }

    private static void latestFirst() {
        Check.says("each can be undone, the latest first");
        BarkNames x = Check.of("w2;p10,3;c0,1,0,1;");
        x.years(1);
        x.cut(0, 2, 7, 5);
        x.anew(1, 20);
        x.scrape(0);
        Check.due("of SCRAPED", x.undo(), 3);
        Check.due("it is back", x.cutHas(0, 1), 1);
        Check.due("its depth", x.cutHas(0, 3), 0);
        Check.due("the one behind it", x.cutHas(1, 3), 20);
        Check.due("of ANEW", x.undo(), 2);
        Check.due("depth", x.cutHas(1, 3), 5);
        Check.due("of CUT", x.undo(), 1);
        Check.due("cuts", x.count(2), 1);
        Check.due("of a YEAR", x.undo(), 0);
        Check.due("year", x.count(4), 0);
        Check.due("girth", x.tree(0, 0), 10);
        Check.due("HEALED by it no more", x.cutHas(0, 3), 1);
    }

    private static void nothingBecomesAnother() {
        Check.says("also such by which nothing becomes another");
        BarkNames x = Check.of("w2;d10,9;c0,0,0,4;");
        Check.due("ANEW to what it is", x.anew(0, 4), 4);
        Check.due("an act", x.count(6), 1);
        x.years(1);
        Check.due("a YEAR of dead trees alone", x.count(6), 2);
        Check.due("undo of it", x.undo(), 1);
        Check.due("the year", x.count(4), 0);
        Check.due("undo of ANEW", x.undo(), 0);
        Check.due("the depth", x.cutHas(0, 3), 4);
    }

    private static void behindAllOthers() {
        Check.says("a LETTER is CUT, behind all others");
        BarkNames x = Check.of("w2;d10,0;d10,0;c1,0,0,1;");
        Check.due("behind one of a TREE above", x.cut(0, 0, 0, 1), 1);
        Check.due("behind two", x.cut(1, 0, 1, 1), 2);
        x.scrape(0);
        Check.due("behind those left", x.cut(1, 0, 0, 1), 2);
    }

    private static void scrapedOff() {
        Check.says("one is SCRAPED off (those behind it are 1 less)");
        String text = "w2;d10,0;c0,10,0,1;c0,11,1,2;c0,12,2,3;";
        int[][] left = {{11, 12}, {10, 12}, {10, 11}};
        for (int cut = 0; cut < 3; cut++) {
            BarkNames x = Check.of(text);
            Check.due("scrape(" + cut + ")", x.scrape(cut), 2);
            for (int i = 0; i < 2; i++) {
                Check.due("letter " + i + " without " + cut, x.cutHas(i, 1), left[cut][i]);
                Check.due("place " + i + " without " + cut, x.cutHas(i, 2), left[cut][i] - 10);
                Check.due("depth " + i + " without " + cut, x.cutHas(i, 3), left[cut][i] - 9);
            }
            Check.due("the last is gone", x.cutHas(2, 0), Check.BAD);
        }
    }

    private static void yearsRefused() {
        Check.says("n YEARS (1 to 20), an ACT each: how many CUTS are not HEALED. BAD; STATE: no WOOD (ahead of BAD)");
        BarkNames x = new BarkNames();
        int[] bad = {0, 21, -1, MIN, MAX};
        for (int n : bad) {
            Check.due("years(" + n + ") of no WOOD", x.years(n), Check.STATE);
        }
        Check.due("years(1) of no WOOD", x.years(1), Check.STATE);
        Check.read(x, "w2;");
        for (int n : bad) {
            Check.due("years(" + n + ")", x.years(n), Check.BAD);
        }
        Check.due("years(1)", x.years(1), 0);
        Check.due("years(20)", x.years(20), 0);
        Check.due("an ACT each", x.count(6), 21);
    }

    private static void yearsFull() {
        Check.says("FULL: beyond YEAR 999.");
        BarkNames x = Check.of("w2;d10,0;y10,0;");
        pass(x, 980);
        Check.due("to 1000", x.years(20), Check.FULL);
        Check.due("the year", x.count(4), 980);
        Check.due("BAD ahead of FULL", x.years(21), Check.BAD);
        Check.due("BAD ahead of FULL, far above", x.years(MAX), Check.BAD);
        Check.due("to 999", x.years(19), 0);
        Check.due("the year", x.count(4), 999);
        Check.due("to 1000", x.years(1), Check.FULL);
        Check.due("the year still", x.count(4), 999);
        Check.due("what is foretold goes on", x.girth(1, 50), 999);
        x.undo();
        Check.due("to 999 again", x.years(1), 0);
    }

    private static void yearsAnswer() {
        Check.says("how many CUTS are not HEALED");
        BarkNames x = Check.of("w2;p10,3;p10,3;c0,0,0,1;c1,0,0,2;c0,0,1,3;");
        Check.due("two", x.years(1), 2);
        Check.due("one", x.years(1), 1);
        Check.due("none", x.years(1), 0);
        Check.due("none of none", Check.of("w2;").years(1), 0);
    }

    private static void cutRefused() {
        Check.says("A LETTER is CUT: its number. BAD");
        BarkNames x = Check.of("w2;d10,0;d10,0;");
        int[][] bad = {{2, 0, 0, 1}, {-1, 0, 0, 1}, {MIN, 0, 0, 1}, {MAX, 0, 0, 1}, {0, 26, 0, 1}, {0, -1, 0, 1},
            {0, MIN, 0, 1}, {0, MAX, 0, 1}, {0, 0, 60, 1}, {0, 0, -1, 1}, {0, 0, MIN, 1}, {0, 0, MAX, 1},
            {0, 0, 0, 0}, {0, 0, 0, 21}, {0, 0, 0, -1}, {0, 0, 0, MIN}, {0, 0, 0, MAX}};
        for (int[] b : bad) {
            Check.due("cut(" + b[0] + ", " + b[1] + ", " + b[2] + ", " + b[3] + ")", x.cut(b[0], b[1], b[2], b[3]), Check.BAD);
        }
        Check.due("no CUT came", x.count(2), 0);
        Check.due("the least of all", x.cut(0, 0, 0, 1), 0);
        Check.due("the greatest of all", x.cut(1, 25, 59, 20), 1);
        Check.due("of no WOOD there is no TREE", new BarkNames().cut(0, 0, 0, 1), Check.BAD);
    }

    private static void cutThereIsOne() {
        Check.says("STATE: there is one at that PLACE (HEALED or not)");
        BarkNames x = Check.of("w2;p10,9;d10,0;c0,0,7,1;c1,0,8,1;");
        Check.due("one that is not HEALED", x.cut(0, 1, 7, 2), Check.STATE);
        x.years(1);
        Check.due("one that is HEALED", x.cut(0, 1, 7, 2), Check.STATE);
        Check.due("beside it", x.cut(0, 1, 6, 2), 2);
        Check.due("at the PLACE of another TREE's", x.cut(0, 1, 8, 2), 3);
        x.scrape(0);
        Check.due("where one was SCRAPED off", x.cut(0, 1, 7, 2), 3);
    }

    private static void cutFull() {
        Check.says("FULL: there are 8.");
        BarkNames x = Check.of("w2;p10,9;");
        for (int cut = 0; cut < 8; cut++) {
            Check.due("CUT " + cut, x.cut(0, 0, cut, 1), cut);
        }
        Check.due("a ninth", x.cut(0, 0, 8, 1), Check.FULL);
        x.years(1);
        Check.due("a ninth, all HEALED", x.cut(0, 0, 8, 1), Check.FULL);
        Check.due("no act", x.count(6), 9);
        x.scrape(3);
        Check.due("an eighth again", x.cut(0, 0, 8, 1), 7);
    }

    private static void anewRefused() {
        Check.says("a CUT is cut ANEW (DEPTH n, if it is not HEALED)");
        BarkNames alone = Check.of("w2;d10,0;c0,0,0,1;c0,0,1,9;");
        alone.anew(0, 20);
        Check.due("DEPTH", alone.cutHas(0, 3), 20);
        Check.due("DEPTH of another", alone.cutHas(1, 3), 9);
        Check.says("ANEW (DEPTH 1 to 20): DEPTH it had. BAD; STATE: it is HEALED.");
        BarkNames x = Check.of("w2;p10,9;c0,0,0,1;c0,0,1,9;");
        int[] noCut = {2, 8, -1, MIN, MAX};
        for (int cut : noCut) {
            Check.due("CUT " + cut, x.anew(cut, 1), Check.BAD);
        }
        int[] noDepth = {0, 21, -1, MIN, MAX};
        for (int depth : noDepth) {
            Check.due("DEPTH " + depth, x.anew(0, depth), Check.BAD);
        }
        Check.due("no act", x.count(6), 0);
        Check.due("DEPTH 20", x.anew(1, 20), 9);
        Check.due("DEPTH 1", x.anew(1, 1), 20);
        x.anew(1, 2);
        x.years(1);
        Check.due("HEALED", x.anew(0, 1), Check.STATE);
        Check.due("nearly HEALED", x.anew(1, 3), 1);
    }

    private static void scrapeRefused() {
        Check.says("SCRAPED off: how many CUTS there are. BAD.");
        BarkNames x = Check.of("w2;p10,9;c0,0,0,1;c0,0,1,9;");
        int[] noCut = {2, 8, -1, MIN, MAX};
        for (int cut : noCut) {
            Check.due("CUT " + cut, x.scrape(cut), Check.BAD);
        }
        x.years(1);
        Check.due("one that is HEALED", x.scrape(0), 1);
        Check.due("the only one", x.scrape(0), 0);
        Check.due("none", x.scrape(0), Check.BAD);
    }

    private static void undoOfNone() {
        Check.says("The latest ACT is undone: how many can be undone yet. STATE: none.");
        BarkNames x = new BarkNames();
        Check.due("of no WOOD", x.undo(), Check.STATE);
        Check.read(x, "w2;d10,0;");
        Check.due("of a new WOOD", x.undo(), Check.STATE);
        x.years(2);
        Check.due("one of two", x.undo(), 1);
        Check.due("the other", x.undo(), 0);
        Check.due("none", x.undo(), Check.STATE);
        x.years(1);
        Check.read(x, "w2;d10,0;");
        Check.due("of a WOOD in place of another", x.undo(), Check.STATE);
        x.image(0);
        x.years(1);
        x.restore(0);
        Check.due("behind restore", x.undo(), Check.STATE);
    }

    private static void treeAsked() {
        Check.says("Of a TREE: 0 GIRTH, 1 SUN, 2 its CUTS that are not HEALED (bits), 3 by how much it will GROW this YEAR. BAD.");
        BarkNames x = Check.of("w2;p10,9;p20,8;c1,0,0,1;c0,0,0,2;c1,0,1,2;");
        int[] due = {20, 8, 5, 8};
        for (int what = 0; what < 4; what++) {
            Check.due("tree(1, " + what + ")", x.tree(1, what), due[what]);
        }
        Check.due("CUTS of TREE 0", x.tree(0, 2), 2);
        x.years(1);
        Check.due("one HEALED", x.tree(1, 2), 4);
        Check.due("none HEALED", x.tree(0, 2), 2);
        int[] bad = {-1, 4, MIN, MAX};
        for (int it : bad) {
            Check.due("TREE " + it, x.tree(it, 0), Check.BAD);
            Check.due("what " + it, x.tree(0, it), Check.BAD);
        }
        Check.due("TREE 2 of 2", x.tree(2, 0), Check.BAD);
    }

    private static void cutAsked() {
        Check.says("Of a CUT: 0 TREE, 1 LETTER, 2 PLACE, 3 DEPTH. BAD.");
        BarkNames x = Check.of("w2;p10,9;p20,8;c1,2,3,4;");
        for (int what = 0; what < 4; what++) {
            Check.due("cutHas(0, " + what + ")", x.cutHas(0, what), what + 1);
        }
        int[] bad = {-1, 4, MIN, MAX};
        for (int it : bad) {
            Check.due("CUT " + it, x.cutHas(it, 0), Check.BAD);
            Check.due("what " + it, x.cutHas(0, it), Check.BAD);
        }
        Check.due("CUT 1 of 1", x.cutHas(1, 0), Check.BAD);
    }

    private static void apartNone() {
        Check.says("How far two CUTS are apart now; NONE: of two TREES, one is HEALED.");
        BarkNames x = Check.of("w2;p60,3;p60,9;c0,0,0,1;c0,0,10,2;c0,0,20,3;c1,0,0,9;");
        Check.due("now", x.apart(0, 2), 20);
        Check.due("of two TREES", x.apart(0, 3), Check.NONE);
        Check.due("of two TREES, the other way", x.apart(3, 0), Check.NONE);
        x.years(1);
        Check.due("the first is HEALED", x.apart(0, 2), Check.NONE);
        Check.due("the second is HEALED", x.apart(2, 0), Check.NONE);
        Check.due("none is HEALED, now", x.apart(1, 2), 10);
        x.years(1);
        Check.due("both are HEALED", x.apart(0, 1), Check.NONE);
    }

    private static void apartRefused() {
        Check.says("BAD: alike, too.");
        BarkNames x = Check.of("w2;p60,3;c0,0,0,1;c0,0,10,2;");
        int[] bad = {2, 8, -1, MIN, MAX};
        for (int it : bad) {
            Check.due("0 and " + it, x.apart(0, it), Check.BAD);
            Check.due(it + " and 0", x.apart(it, 0), Check.BAD);
            Check.due(it + " and itself", x.apart(it, it), Check.BAD);
        }
        Check.due("alike", x.apart(1, 1), Check.BAD);
        x.years(1);
        Check.due("alike and HEALED", x.apart(0, 0), Check.BAD);
    }

    private static void togetherRefused() {
        Check.says("Whether two CUTS are TOGETHER now (1, 0). BAD: alike, of two TREES, too.");
        BarkNames x = Check.of("w2;p60,3;d60,0;c0,0,0,1;c0,0,1,2;c1,0,0,1;");
        int[] bad = {3, 8, -1, MIN, MAX};
        for (int it : bad) {
            Check.due("0 and " + it, x.together(0, it), Check.BAD);
            Check.due(it + " and 0", x.together(it, 0), Check.BAD);
        }
        Check.due("alike", x.together(0, 0), Check.BAD);
        Check.due("of two TREES", x.together(0, 2), Check.BAD);
        Check.due("of two TREES, the other way", x.together(2, 0), Check.BAD);
        Check.due("now", x.together(0, 1), 1);
        x.years(1);
        Check.due("one is HEALED", x.together(0, 1), 0);
        Check.due("one is HEALED, the other way", x.together(1, 0), 0);
        Check.due("alike and HEALED", x.together(0, 0), Check.BAD);
        Check.due("of two TREES and HEALED", x.together(0, 2), Check.BAD);
    }
}
