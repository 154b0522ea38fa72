/** The edges that the document names for what is foretold, and for images (promises 18 to 29), a sentence at a time. */
public final class EdgesForetoldTest {
    private static final int MIN = Integer.MIN_VALUE, MAX = Integer.MAX_VALUE;
    private static final int[] NO_YEARS = {-1, 51, MIN, MAX};

    public static void main(String[] args) {
        yearsFromNow();
        girthRefused();
        leftRefused();
        freeNow();
        freeInYear50();
        freeOfHealed();
        freeRefused();
        holdsPlaces();
        holdsDepths();
        holdsEachYear();
        holdsAlone();
        holdsRefused();
        deepest();
        deepOfOaks();
        deepRefused();
        meetApart();
        meetNone();
        meetRefused();
        meetBelow();
        ringsAlone();
        ringsRefused();
        ringsAsGreat();
        gapsHealed();
        gapsYears();
        gapsDepths();
        gapsRefused();
        whichKinds();
        whichYears();
        whichSuns();
        whichBehindTheLastYear();
        whichRefused();
        rowsOfEachLane();
        stormEnds();
        stormLowestTerms();
        stormOfNone();
        stormOfHealed();
        stormRefused();
        imagesKept();
        restored();
        Check.end();
    }

    private static void yearsFromNow() {
        Check.says("d YEARS from now (0 to 50). GIRTH then; CUTS (bits) that are not HEALED then.");
        BarkNames x = Check.of("w2;p90,9;p10,3;c1,0,0,1;c1,0,1,20;c0,0,0,20;");
        Check.due("girth now", x.girth(0, 0), 90);
        Check.due("girth in 50", x.girth(0, 50), 540);
        Check.due("left now", x.left(0), 7);
        Check.due("left in 1", x.left(1), 6);
        Check.due("left in 19", x.left(19), 6);
        Check.due("left in 20", x.left(20), 0);
        Check.due("left in 50", x.left(50), 0);
    }

    private static void girthRefused() {
        Check.says("GIRTH. BAD.");
        BarkNames x = Check.of("w2;p90,9;p10,3;");
        for (int d : NO_YEARS) {
            Check.due("in " + d, x.girth(0, d), Check.BAD);
        }
        int[] noTree = {-1, 2, 4, MIN, MAX};
        for (int tree : noTree) {
            Check.due("of TREE " + tree, x.girth(tree, 0), Check.BAD);
        }
        Check.due("of no WOOD", new BarkNames().girth(0, 0), Check.BAD);
    }

    private static void deepRefused() {
        Check.says("DEEP; NONE. BAD.");
        BarkNames x = Check.of("w2;p90,9;p10,3;");
        for (int d : NO_YEARS) {
            Check.due("in " + d, x.deep(0, d), Check.BAD);
        }
        int[] noTree = {-1, 2, 4, MIN, MAX};
        for (int tree : noTree) {
            Check.due("of TREE " + tree, x.deep(tree, 0), Check.BAD);
        }
        Check.due("of no WOOD", new BarkNames().deep(0, 0), Check.BAD);
    }

    private static void leftRefused() {
        Check.says("CUTS that are not HEALED. BAD; STATE: no WOOD (ahead of BAD).");
        BarkNames x = new BarkNames();
        for (int d : NO_YEARS) {
            Check.due("left in " + d + " of no WOOD", x.left(d), Check.STATE);
        }
        Check.due("left now of no WOOD", x.left(0), Check.STATE);
        Check.read(x, "w2;");
        for (int d : NO_YEARS) {
            Check.due("left in " + d, x.left(d), Check.BAD);
        }
        Check.due("left of no CUTS", x.left(50), 0);
    }

    private static void freeNow() {
        Check.says("FREE: the first of the next YEARS (0, now, to 50)");
        BarkNames x = Check.of("w2;d60,0;p60,3;c0,0,0,1;c0,0,3,1;c1,0,0,1;c1,0,1,2;");
        Check.due("now: they are 3 apart", x.free(0, 1), 0);
        Check.due("in a year: one is HEALED then", x.free(2, 3), 1);
    }

    private static void freeInYear50() {
        Check.says("to 50) in which two CUTS of one TREE are not TOGETHER (one HEALED, too); NONE.");
        // 4 * 149 / 60 is 9, 4 * 150 / 60 is 10; 2 a year
        BarkNames x = Check.of("w9;b50,3;b48,3;d60,0;c0,0,0,1;c0,0,4,1;c1,0,0,1;c1,0,4,1;c2,0,0,1;c2,0,9,1;");
        Check.due("in year 50", x.free(0, 1), 50);
        Check.due("in year 51: not told", x.free(2, 3), Check.NONE);
        Check.due("never", x.free(4, 5), Check.NONE);
        x.years(1);
        Check.due("a year on", x.free(0, 1), 49);
        Check.due("a year on", x.free(2, 3), 50);
    }

    private static void freeOfHealed() {
        Check.says("(one HEALED, too)");
        BarkNames x = Check.of("w9;p10,3;c0,0,0,1;c0,0,1,3;c0,0,2,4;");
        Check.due("the first heals in 1", x.free(0, 1), 1);
        Check.due("told the other way", x.free(1, 0), 1);
        Check.due("the second heals in 3", x.free(2, 1), 3);
        x.years(1);
        Check.due("one is HEALED now", x.free(0, 1), 0);
        // 1 is between 0 and 2
        x = Check.of("w2;o60,3;c0,0,0,9;c0,0,2,1;c0,0,4,9;");
        Check.due("the one between heals in 2", x.free(0, 2), 2);
    }

    private static void freeRefused() {
        Check.says("FREE; NONE. BAD: alike, of two TREES, too.");
        BarkNames x = Check.of("w2;p60,3;d60,0;c0,0,0,1;c0,0,1,2;c1,0,0,1;");
        int[] noCut = {3, 8, -1, MIN, MAX};
        for (int it : noCut) {
            Check.due("0 and " + it, x.free(0, it), Check.BAD);
            Check.due(it + " and 0", x.free(it, 0), Check.BAD);
        }
        Check.due("alike", x.free(0, 0), Check.BAD);
        Check.due("of two TREES", x.free(0, 2), Check.BAD);
        x.years(1);
        Check.due("alike and HEALED", x.free(0, 0), Check.BAD);
        Check.due("of two TREES and HEALED", x.free(0, 2), Check.BAD);
    }

    private static void holdsPlaces() {
        Check.says("p apart by PLACES (1 to 30)");
        BarkNames x = Check.of("w5;d10,0;d60,0;d11,0;d12,0;");
        Check.due("1", x.holds(1, 1, 50), 15);
        Check.due("30: 30 * 10 / 60 is 5, 30 * 11 / 60, too", x.holds(30, 1, 50), 5);
        Check.due("0", x.holds(0, 1, 0), Check.BAD);
        Check.due("31", x.holds(31, 1, 0), Check.BAD);
        Check.due("far below", x.holds(MIN, 1, 0), Check.BAD);
        Check.due("far above", x.holds(MAX, 1, 0), Check.BAD);
    }

    private static void holdsDepths() {
        Check.says("two CUTS of DEPTH n");
        BarkNames x = Check.of("w9;p10,3;d10,0;");
        Check.due("1, now", x.holds(1, 1, 0), 3);
        Check.due("1, in a year", x.holds(1, 1, 1), 2);
        Check.due("20, in 19", x.holds(1, 20, 19), 3);
        Check.due("20, in 20", x.holds(1, 20, 20), 2);
        Check.due("0", x.holds(1, 0, 0), Check.BAD);
        Check.due("21", x.holds(1, 21, 0), Check.BAD);
        Check.due("far below", x.holds(1, MIN, 0), Check.BAD);
        Check.due("far above", x.holds(1, MAX, 0), Check.BAD);
    }

    private static void holdsEachYear() {
        Check.says("could be read as one in each YEAR from now (0) to d YEARS on (d, too)");
        // 2 a year, never closing: 2 * 89 / 60 is 2, 2 * 90 / 60 is 3
        BarkNames x = Check.of("w2;p86,2;p90,2;");
        Check.due("now", x.holds(2, 1, 0), 1);
        Check.due("to the year ahead of it", x.holds(2, 1, 1), 1);
        Check.due("to that year, too", x.holds(2, 1, 2), 0);
        Check.due("not now, so not then", x.holds(2, 1, 1) & 2, 0);
        for (int d : NO_YEARS) {
            Check.due("d " + d, x.holds(1, 1, d), Check.BAD);
        }
        // 1 * 178 / 60 is 2, 1 * 180 / 60 is 3
        Check.due("d 44", x.holds(1, 1, 44), 3);
        Check.due("d 45", x.holds(1, 1, 45), 1);
        Check.due("d 46", x.holds(1, 1, 46), 1);
        Check.due("d 47", x.holds(1, 1, 47), 0);
        Check.due("d 50", x.holds(1, 1, 50), 0);
    }

    private static void holdsAlone() {
        Check.says("made now at PLACES 0 and p alone");
        BarkNames x = Check.of("w2;d60,0;c0,0,0,1;c0,0,2,1;c0,0,4,1;c0,0,6,1;c0,0,8,1;c0,0,10,1;c0,0,12,1;c0,0,14,1;");
        Check.due("where there is one, of 8", x.holds(2, 1, 0), 1);
        Check.due("others between do not count", x.holds(4, 1, 0), 0);
        Check.due("all stay", x.count(2), 8);
    }

    private static void holdsRefused() {
        Check.says("HOLDS. BAD; STATE: no WOOD (ahead of BAD).");
        BarkNames x = new BarkNames();
        Check.due("of no WOOD", x.holds(1, 1, 0), Check.STATE);
        Check.due("of no WOOD, p 0", x.holds(0, 1, 0), Check.STATE);
        Check.due("of no WOOD, n 0", x.holds(1, 0, 0), Check.STATE);
        Check.due("of no WOOD, d 51", x.holds(1, 1, 51), Check.STATE);
        Check.read(x, "w2;");
        Check.due("of no TREES", x.holds(1, 1, 0), 0);
    }

    private static void deepest() {
        Check.says("DEEP: the least DEPTH (1 to 20) with which a CUT at a TREE now is not HEALED d YEARS from now; NONE.");
        BarkNames x = Check.of("w2;p10,3;d10,0;p10,2;");
        for (int d = 0; d <= 50; d++) {
            Check.due("a pine, " + d, x.deep(0, d), d < 20 ? d + 1 : Check.NONE);
        }
        Check.due("a dead one, 50", x.deep(1, 50), 1);
        Check.due("a pine that does not close, 50", x.deep(2, 50), 1);
        x = Check.of("w2;p10,3;c0,0,0,1;c0,0,1,1;c0,0,2,1;c0,0,3,1;c0,0,4,1;c0,0,5,1;c0,0,6,1;c0,0,7,1;");
        Check.due("where there are 8", x.deep(0, 5), 6);
        Check.due("they stay", x.left(0), 255);
    }

    private static void deepOfOaks() {
        Check.says("of an oak, if it GREW by 1 or more, but only if YEAR is odd as it begins");
        BarkNames x = Check.of("w2;o10,9;");
        Check.due("even", x.deep(0, 1), 1);
        Check.due("even, odd", x.deep(0, 2), 2);
        Check.due("39 years", x.deep(0, 39), 20);
        Check.due("40 years", x.deep(0, 40), Check.NONE);
        x.years(1);
        Check.due("odd", x.deep(0, 1), 2);
        Check.due("odd, even", x.deep(0, 2), 2);
    }

    private static void meetApart() {
        Check.says("that are 30 PLACES apart, or one less");
        int[] there = {0, 27, 28, 29, 30, 31, 32, 33};
        for (int place = 1; place < 60; place++) {
            BarkNames x = Check.of("w2;d60,0;c0,0,0,1;c0,0," + place + ",1;");
            Check.due("0 and " + place, x.meet(0, 0), place >= 29 && place <= 31 ? 1 : 0);
        }
        BarkNames x = Check.of("w2;d60,0;");
        for (int place : there) {
            x.cut(0, 0, place, 1);
        }
        // CUT 0 with those at 29, 30, 31
        Check.due("three", x.meet(0, 0), 3);
        Check.due("the first", x.meet(0, 1), 3);
    }

    private static void meetNone() {
        Check.says("how many; the first (10 a and b; NONE)");
        BarkNames x = Check.of("w2;p60,3;d60,0;c0,0,0,1;c0,0,30,9;c1,0,0,1;c1,0,28,1;");
        Check.due("one", x.meet(0, 0), 1);
        Check.due("the first", x.meet(0, 1), 1);
        x.years(1);
        Check.due("one HEALED", x.meet(0, 0), 0);
        Check.due("no first", x.meet(0, 1), Check.NONE);
        Check.due("none on the other TREE", x.meet(1, 0), 0);
        Check.due("no first on the other TREE", x.meet(1, 1), Check.NONE);
    }

    private static void meetRefused() {
        Check.says("MEET: how many (what = 0), the first (1; NONE). BAD.");
        BarkNames x = Check.of("w2;d60,0;d60,0;c0,0,0,1;c0,0,30,1;");
        int[] bad = {-1, 2, MIN, MAX};
        for (int it : bad) {
            Check.due("TREE " + it, x.meet(it, 0), Check.BAD);
            Check.due("what " + it, x.meet(0, it), Check.BAD);
        }
    }

    private static void meetBelow() {
        Check.says("pairs of CUTS of a TREE, a below b, not HEALED");
        BarkNames x = Check.of("w2;d60,0;d60,0;c1,0,0,1;c0,0,30,1;c1,0,15,1;c0,0,45,1;c0,0,0,1;c0,0,15,1;c1,0,46,1;c1,0,31,1;");
        // on TREE 0: 1 with 4, 3 with 5; on TREE 1: 0 with 7, 2 with 6
        Check.due("on TREE 0", x.meet(0, 0), 2);
        Check.due("the first on TREE 0", x.meet(0, 1), 14);
        Check.due("on TREE 1", x.meet(1, 0), 2);
        Check.due("the first on TREE 1", x.meet(1, 1), 7);
        x.scrape(0);
        Check.due("the first on TREE 1, CUT 0 SCRAPED off", x.meet(1, 1), 15);
        Check.due("the first on TREE 0, CUT 0 SCRAPED off", x.meet(0, 1), 3);
    }

    private static void ringsAlone() {
        Check.says("each as great as can be (one alone, too): how many; the most CUTS in one");
        BarkNames x = Check.of("w2;p60,3;d60,0;c0,0,0,1;c0,0,30,9;c0,0,31,9;");
        Check.due("one alone and two", x.rings(0, 0), 2);
        Check.due("the most", x.rings(0, 1), 2);
        x.scrape(2);
        Check.due("two alone", x.rings(0, 0), 2);
        Check.due("the most", x.rings(0, 1), 1);
        x.years(1);
        Check.due("one HEALED", x.rings(0, 0), 1);
        Check.due("none", x.rings(1, 0), 0);
        Check.due("the most of none", x.rings(1, 1), 0);
        x.years(8);
        Check.due("all HEALED", x.rings(0, 0), 0);
        Check.due("the most, all HEALED", x.rings(0, 1), 0);
    }

    private static void ringsRefused() {
        Check.says("RINGS: how many (what = 0), the most CUTS in one (1). BAD.");
        BarkNames x = Check.of("w2;d60,0;d60,0;c0,0,0,1;c0,0,30,1;");
        int[] bad = {-1, 2, MIN, MAX};
        for (int it : bad) {
            Check.due("TREE " + it, x.rings(it, 0), Check.BAD);
            Check.due("what " + it, x.rings(0, it), Check.BAD);
        }
    }

    private static void ringsAsGreat() {
        Check.says("sets of CUTS of a TREE, none HEALED, that are TOGETHER, each as great as can be");
        BarkNames x = Check.of("w2;d60,0;c0,0,0,1;c0,0,14,1;c0,0,12,1;c0,0,2,1;c0,0,10,1;c0,0,4,1;c0,0,8,1;c0,0,6,1;");
        Check.due("all 8 in one", x.rings(0, 0), 1);
        Check.due("the most", x.rings(0, 1), 8);
        x = Check.of("w2;d60,0;c0,0,0,1;c0,0,3,1;c0,0,6,1;c0,0,9,1;c0,0,12,1;c0,0,15,1;c0,0,18,1;c0,0,21,1;");
        Check.due("each alone", x.rings(0, 0), 8);
        Check.due("the most", x.rings(0, 1), 1);
        x = Check.of("w2;d60,0;c0,0,59,1;c0,0,1,1;c0,0,57,1;c0,0,3,1;");
        Check.due("round the bark", x.rings(0, 1), 4);
    }

    private static void gapsHealed() {
        Check.says("a row tells DEPTHS of a CUT behind each of n YEARS (1 to 16) from now on (0: HEALED)");
        BarkNames x = Check.of("w2;p10,3;d10,0;c0,0,0,5;c1,0,0,5;");
        Check.fill(x, 1, 0, 0, 0);
        Check.due("HEALED behind the second", x.gaps(0, 0, 0, 4), 1 << 2);
        Check.due("HEALED behind the first", x.gaps(0, 0, 1, 3), 1 << 1);
        Check.due("never of a dead one", x.gaps(1, 0, 1, 3), 0);
        Check.fill(x, 0, 1, -1, 21);
        Check.due("HEALED and not so", x.gaps(0, 0, 0, 2), 0);
        Check.due("below 0", x.gaps(0, 0, 2, 1), 0);
        Check.due("above 20", x.gaps(1, 0, 3, 1), 0);
        Check.fill(x, 4, 3);
        x.years(5);
        Check.due("of one that is HEALED now", x.gaps(0, 0, 0, 2), 1 << 5);
    }

    private static void gapsYears() {
        Check.says("n YEARS (1 to 16)");
        BarkNames x = Check.of("w2;p10,3;c0,0,0,5;");
        x.row(0, 0, 17);
        for (int i = 0; i < 17; i++) {
            x.set(0, i, 18 - i);
        }
        Check.due("1", x.gaps(0, 0, 0, 1), 1 << 19);
        Check.due("16", x.gaps(0, 0, 0, 16), 1 << 19);
        Check.due("16, from 1 on", x.gaps(0, 0, 1, 16), 1 << 18);
        x.set(0, 16, 9);
        Check.due("16, the last is not so", x.gaps(0, 0, 1, 16), 0);
        Check.due("16, ahead of it", x.gaps(0, 0, 0, 16), 1 << 19);
        int[] bad = {0, 17, -1, MIN, MAX};
        for (int n : bad) {
            Check.due("n " + n, x.gaps(0, 0, 0, n), Check.BAD);
        }
    }

    private static void gapsDepths() {
        Check.says("DEPTHS (1 to 20, bits) it could have now so that it goes so");
        BarkNames x = Check.of("w2;p10,3;d10,0;c0,0,0,5;c1,0,0,5;");
        for (int depth = 0; depth <= 21; depth++) {
            Check.fill(x, depth);
            Check.due("a pine's, " + depth, x.gaps(0, 0, 0, 1), depth < 20 ? 1 << depth + 1 : 0);
            Check.due("a dead one's, " + depth, x.gaps(1, 0, 0, 1), depth > 0 && depth < 21 ? 1 << depth : 0);
        }
    }

    private static void gapsRefused() {
        Check.says("GAPS, n ITEMS of a ROW from i on. BAD: CUT, ROW, n; NULL; PLACE.");
        BarkNames x = Check.of("w2;p10,3;c0,0,0,5;");
        x.row(0, 0, 4);
        int[] noCut = {1, 8, -1, MIN, MAX};
        for (int cut : noCut) {
            Check.due("CUT " + cut, x.gaps(cut, 0, 0, 1), Check.BAD);
        }
        int[] noRow = {8, -1, MIN, MAX};
        for (int row : noRow) {
            Check.due("ROW " + row, x.gaps(0, row, 0, 1), Check.BAD);
        }
        Check.due("missing", x.gaps(0, 7, 0, 1), Check.NULL);
        int[] noPlace = {4, -1, MIN, MAX, MAX - 1};
        for (int i : noPlace) {
            Check.due("from " + i + " on", x.gaps(0, 0, i, 2), Check.PLACE);
        }
        Check.due("1 beyond the end", x.gaps(0, 0, 3, 2), Check.PLACE);
        Check.due("to the end", x.gaps(0, 0, 2, 2), 1 << 1);
        Check.due("of no WOOD", new BarkNames().gaps(0, 0, 0, 1), Check.BAD);
    }

    private static void whichKinds() {
        Check.says("KINDS (bits 1 to 5) by which, all else as it is, it goes so");
        String sorts = "boypd";
        for (int of = 0; of < sorts.length(); of++) {
            BarkNames x = Check.of("w2;" + sorts.charAt(of) + "40,9;");
            int[] girths = {44, 42, 46, 49, 40};
            for (int kind = 1; kind <= 5; kind++) {
                Check.fill(x, girths[kind - 1]);
                Check.due("kind " + kind + " of " + sorts.charAt(of), x.which(0, 0, 0, 1, 0), 1 << kind);
            }
            Check.fill(x, 41, 43, 45, 39, 999, -1);
            for (int i = 0; i < 6; i++) {
                Check.due("by none, " + i, x.which(0, 0, i, 1, 0), 0);
            }
        }
        BarkNames x = Check.of("w2;d40,0;");
        Check.fill(x, 40);
        Check.due("SUN 0: oaks, pines, dead ones", x.which(0, 0, 0, 1, 0), 1 << 2 | 1 << 4 | 1 << 5);
        // at 999 none grows
        x = Check.of("w2;p90,9;");
        for (int i = 0; i < 6; i++) {
            x.years(20);
        }
        Check.fill(x, 999);
        Check.due("999: by all", x.which(0, 0, 0, 1, 0), 62);
        Check.due("999: by each SUN", x.which(0, 0, 0, 1, 1), 1023);
    }

    private static void whichYears() {
        Check.says("WHICH: a row tells GIRTHS of a TREE behind each of n YEARS");
        BarkNames x = Check.of("w2;d10,3;");
        x.row(0, 1, 17);
        for (int i = 0; i < 17; i++) {
            x.set(0, i, 13 + 3 * i);
        }
        Check.due("1: a pine", x.which(0, 0, 0, 1, 0), 1 << 4);
        Check.due("16: a pine", x.which(0, 0, 0, 16, 0), 1 << 4);
        x.set(0, 15, 0);
        Check.due("16, the last is not so", x.which(0, 0, 0, 16, 0), 0);
        Check.due("15", x.which(0, 0, 0, 15, 0), 1 << 4);
        int[] bad = {0, 17, -1, MIN, MAX};
        for (int n : bad) {
            Check.due("n " + n + ", KINDS", x.which(0, 0, 0, n, 0), Check.BAD);
            Check.due("n " + n + ", SUNS", x.which(0, 0, 0, n, 1), Check.BAD);
        }
    }

    private static void whichSuns() {
        Check.says("SUNS: such a row: SUN (0 to 9, bits) by which, all else as it is, it goes so.");
        BarkNames x = Check.of("w2;p40,5;d40,5;");
        for (int sun = 0; sun <= 10; sun++) {
            Check.fill(x, 40 + sun);
            Check.due("a pine's " + sun, x.which(0, 0, 0, 1, 1), sun < 10 ? 1 << sun : 0);
            Check.due("a dead one's " + sun, x.which(1, 0, 0, 1, 1), sun == 0 ? 1023 : 0);
        }
        x = Check.of("w2;y40,5;");
        Check.fill(x, 46, 50, 56);
        Check.due("a birch's 9", x.which(0, 0, 0, 3, 1), 1 << 9);
    }

    private static void whichBehindTheLastYear() {
        Check.says("FORETOLD (nothing changes), d YEARS from now");
        // only years() is FULL beyond YEAR 999; a dead tree and an oak of SUN 0 can grow yet by another KIND or SUN
        BarkNames x = Check.of("w2;d40,9;o10,0;");
        for (int i = 0; i < 49; i++) {
            x.years(20);
        }
        x.years(19);
        Check.due("YEAR", x.count(4), 999);
        Check.due("beyond it", x.years(1), Check.FULL);
        Check.fill(x, 44, 48, 50, 11, 12, 12, 14);
        Check.due("YEAR 999 is odd: a beech, a birch", x.which(0, 0, 0, 1, 0), 1 << 1 | 1 << 3);
        Check.due("YEAR 1000 is even: a beech", x.which(0, 0, 0, 2, 0), 1 << 1);
        x.set(0, 1, 50);
        Check.due("YEAR 1000 is even: a birch", x.which(0, 0, 0, 2, 0), 1 << 3);
        Check.due("an oak's SUNS of 3 to 8", x.which(1, 0, 3, 2, 1), 0x1F8);
        Check.due("an oak's SUN 9", x.which(1, 0, 5, 2, 1), 1 << 9);
        Check.due("YEAR stays", x.count(4), 999);
    }

    private static void whichRefused() {
        Check.says("WHICH (suns = 0), SUNS (1), n ITEMS of a ROW from i on. BAD: TREE, ROW, n, suns; NULL; PLACE.");
        BarkNames x = Check.of("w2;p10,3;");
        x.row(0, 0, 4);
        int[] noTree = {1, 4, -1, MIN, MAX};
        for (int tree : noTree) {
            Check.due("TREE " + tree, x.which(tree, 0, 0, 1, 0), Check.BAD);
        }
        int[] noRow = {8, -1, MIN, MAX};
        for (int row : noRow) {
            Check.due("ROW " + row, x.which(0, row, 0, 1, 1), Check.BAD);
        }
        int[] noChoice = {2, -1, MIN, MAX};
        for (int suns : noChoice) {
            Check.due("suns " + suns, x.which(0, 0, 0, 1, suns), Check.BAD);
            Check.due("suns " + suns + " ahead of NULL", x.which(0, 7, 0, 1, suns), Check.BAD);
        }
        Check.due("missing", x.which(0, 7, 0, 1, 0), Check.NULL);
        int[] noPlace = {4, -1, MIN, MAX, MAX - 1};
        for (int i : noPlace) {
            Check.due("from " + i + " on", x.which(0, 0, i, 2, 1), Check.PLACE);
        }
        Check.due("1 beyond the end", x.which(0, 0, 3, 2, 0), Check.PLACE);
        Check.due("to the end", x.which(0, 0, 2, 2, 0), 0);
        Check.due("of no WOOD", new BarkNames().which(0, 0, 0, 1, 0), Check.BAD);
    }

    private static void rowsOfEachLane() {
        Check.says("n ITEMS of a ROW from i on");
        BarkNames x = Check.of("w2;p90,9;p90,9;c0,0,0,9;");
        x.years(5);
        for (int lane = 0; lane < 3; lane++) {
            x.row(0, lane, 1);
            x.set(0, 0, 8);
            Check.due("DEPTHS of LANE " + lane, x.gaps(0, 0, 0, 1), 1 << 9);
            x.set(0, 0, 144);
            // 144 is -112 in a byte
            Check.due("GIRTHS of LANE " + lane, x.which(0, 0, 0, 1, 1), lane == 0 ? 0 : 1 << 9);
        }
    }

    private static void fraction(BarkNames x, int c, int above, int below) {
        Check.due("above, c " + c, x.storm(0, 1, c, 0), above);
        Check.due("below, c " + c, x.storm(0, 1, c, 1), below);
        Check.due("above, the other way, c " + c, x.storm(1, 0, c, 0), above);
        Check.due("below, the other way, c " + c, x.storm(1, 0, c, 1), below);
    }

    private static void stormEnds() {
        Check.says("each CUT of a TREE that is not HEALED is taken now by c of 10, each by itself");
        BarkNames x = Check.of("w2;d60,0;c0,0,0,1;c0,0,1,1;c0,0,30,1;");
        fraction(x, 0, 1, 1);
        fraction(x, 1, 81, 100);
        fraction(x, 2, 16, 25);
        fraction(x, 3, 49, 100);
        fraction(x, 4, 9, 25);
        fraction(x, 5, 1, 4);
        fraction(x, 6, 4, 25);
        fraction(x, 7, 9, 100);
        fraction(x, 8, 1, 25);
        fraction(x, 9, 1, 100);
        fraction(x, 10, 0, 1);
    }

    private static void stormLowestTerms() {
        Check.says("fractions, told as two numbers in lowest terms (0 is 0 by 1)");
        BarkNames x = Check.of("w2;d60,0;c0,0,0,1;c0,0,14,1;c0,0,2,1;c0,0,4,1;c0,0,6,1;c0,0,8,1;c0,0,10,1;c0,0,12,1;");
        fraction(x, 0, 1, 1);
        fraction(x, 1, 43046721, 100000000);
        fraction(x, 2, 65536, 390625);
        fraction(x, 5, 1, 256);
        fraction(x, 9, 1, 100000000);
        fraction(x, 10, 0, 1);
        // 0 and 1 and one of two between: 1/4 * 3/4
        x = Check.of("w2;d60,0;c0,0,0,1;c0,0,3,1;c0,0,1,1;c0,0,2,1;");
        fraction(x, 5, 3, 16);
    }

    private static void stormOfNone() {
        Check.says("(0 by 1, if they are not now)");
        BarkNames x = Check.of("w2;d60,0;c0,0,0,1;c0,0,30,1;");
        for (int c = 0; c <= 10; c++) {
            fraction(x, c, 0, 1);
        }
    }

    private static void stormOfHealed() {
        Check.says("STORM: each CUT of a TREE that is not HEALED");
        BarkNames x = Check.of("w2;p60,3;d60,0;c0,0,0,9;c0,0,2,9;c0,0,1,1;c0,0,3,1;c1,0,0,1;");
        fraction(x, 5, 1, 4);
        x.years(1);
        fraction(x, 5, 1, 4);
        x.anew(0, 1);
        x.years(1);
        fraction(x, 0, 0, 1);
        fraction(x, 5, 0, 1);
        x.anew(1, 1);
        x.years(1);
        fraction(x, 0, 0, 1);
        fraction(x, 10, 0, 1);
    }

    private static void stormRefused() {
        Check.says("STORM (c 0 to 10): above (what = 0), below (1). BAD: alike, of two TREES, too.");
        BarkNames x = Check.of("w2;p60,3;d60,0;c0,0,0,1;c0,0,1,2;c1,0,0,1;");
        int[] noCut = {3, 8, -1, MIN, MAX};
        for (int it : noCut) {
            Check.due("0 and " + it, x.storm(0, it, 1, 0), Check.BAD);
            Check.due(it + " and 0", x.storm(it, 0, 1, 0), Check.BAD);
        }
        Check.due("alike", x.storm(0, 0, 1, 0), Check.BAD);
        Check.due("of two TREES", x.storm(0, 2, 1, 0), Check.BAD);
        int[] noChance = {11, -1, MIN, MAX};
        for (int c : noChance) {
            Check.due("c " + c, x.storm(0, 1, c, 0), Check.BAD);
        }
        int[] noChoice = {2, -1, MIN, MAX};
        for (int what : noChoice) {
            Check.due("what " + what, x.storm(0, 1, 1, what), Check.BAD);
        }
    }

    private static void imagesKept() {
        Check.says("An IMAGE (0, 1) is kept of the WOOD: 1. BAD; STATE: no WOOD.");
        BarkNames x = new BarkNames();
        int[] bad = {2, -1, MIN, MAX};
        for (int k : bad) {
            Check.due("image(" + k + ") of no WOOD", x.image(k), Check.BAD);
        }
        Check.due("image(0) of no WOOD", x.image(0), Check.STATE);
        Check.due("image(1) of no WOOD", x.image(1), Check.STATE);
        Check.read(x, "w2;");
        Check.due("image(0)", x.image(0), 1);
        Check.due("image(1)", x.image(1), 1);
        for (int k : bad) {
            Check.due("image(" + k + ")", x.image(k), Check.BAD);
        }
        x.years(1);
        x.image(1);
        Check.due("no act", x.count(6), 1);
    }

    private static void restored() {
        Check.says("The WOOD is as an IMAGE kept it (no ACT can be undone then): 1. BAD; STATE: none was kept.");
        BarkNames x = Check.of("w3;o60,9;p20,9;c0,1,2,3;c1,4,5,1;");
        int[] bad = {2, -1, MIN, MAX};
        for (int k : bad) {
            Check.due("restore(" + k + ")", x.restore(k), Check.BAD);
        }
        x.years(1);
        x.image(1);
        Check.due("restore(0), none was kept", x.restore(0), Check.STATE);
        Check.due("the act stays", x.count(6), 1);
        Check.read(x, "w9;d10,0;d10,0;d10,0;c2,0,0,9;c2,0,1,9;c2,0,2,9;");
        Check.due("restore(1)", x.restore(1), 1);
        Check.due("undo", x.undo(), Check.STATE);
        Check.due("WIDE", x.count(5), 3);
        Check.due("YEAR", x.count(4), 1);
        Check.due("TREES", x.count(1), 2);
        Check.due("CUTS", x.count(2), 2);
        Check.due("KIND", x.kind(0), 2);
        Check.due("GIRTH", x.tree(0, 0), 62);
        Check.due("SUN", x.tree(1, 1), 9);
        int[] cut = {0, 1, 2, 3, 1, 4, 5, 0};
        for (int i = 0; i < 8; i++) {
            Check.due("cutHas(" + i / 4 + ", " + i % 4 + ")", x.cutHas(i / 4, i % 4), cut[i]);
        }
        x.scrape(0);
        x.years(9);
        Check.due("restore(1) again", x.restore(1), 1);
        Check.due("YEAR", x.count(4), 1);
        Check.due("CUTS", x.count(2), 2);
    }
}
