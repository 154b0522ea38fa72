/** Promises 18 to 27: what is foretold, which changes nothing. */
public final class ForetoldTest {
    public static void main(String[] args) {
        girth();
        left();
        free();
        holds();
        deep();
        meet();
        rings();
        gaps();
        kinds();
        suns();
        rowsRefused();
        storm();
        changesNothing();
        Check.end();
    }

    private static void girth() {
        BarkNames x = Check.of(Check.FOUR);
        int[] now = {40, 60, 30, 20};
        int[] then = {240, 110, 130, 170};
        for (int tree = 0; tree < 4; tree++) {
            Check.due("girth(" + tree + ", 0)", x.girth(tree, 0), now[tree]);
            Check.due("girth(" + tree + ", 50)", x.girth(tree, 50), then[tree]);
        }
        Check.due("girth(2, 1)", x.girth(2, 1), 33);
        Check.due("girth(2, 2)", x.girth(2, 2), 34);
        Check.due("girth(0, 51)", x.girth(0, 51), Check.BAD);
        Check.due("girth(0, -1)", x.girth(0, -1), Check.BAD);
        Check.due("girth(4, 0)", x.girth(4, 0), Check.BAD);
        Check.due("girth(-1, 0)", x.girth(-1, 0), Check.BAD);
        x.years(1);
        Check.due("a birch from an odd year", x.girth(2, 1), 34);
    }

    private static void left() {
        BarkNames x = Check.of(Check.FOUR);
        Check.due("left(0)", x.left(0), 255);
        Check.due("left(1)", x.left(1), 191);
        Check.due("left(5)", x.left(5), 181);
        Check.due("left(50)", x.left(50), 0);
        Check.due("left(51)", x.left(51), Check.BAD);
        Check.due("left(-1)", x.left(-1), Check.BAD);
    }

    private static void free() {
        BarkNames x = Check.of(Check.FOUR);
        Check.due("free(0, 1), 1 heals", x.free(0, 1), 3);
        Check.due("free(0, 2), the one between heals", x.free(0, 2), 3);
        Check.due("free(2, 3), now", x.free(2, 3), 0);
        Check.due("free(4, 5)", x.free(4, 5), 8);
        Check.due("two trees", x.free(0, 4), Check.BAD);
        Check.due("alike", x.free(0, 0), Check.BAD);
        Check.due("free(0, 8)", x.free(0, 8), Check.BAD);
        Check.due("free(-1, 0)", x.free(-1, 0), Check.BAD);
        x = Check.of("w5;d60,0;b30,3;b40,3;c0,0,0,1;c0,0,5,1;c1,0,0,1;c1,0,3,1;c2,0,0,1;c2,1,4,1;");
        Check.due("never", x.free(0, 1), Check.NONE);
        Check.due("30 and 2 a year: 3 * 120 / 60 is 6 in year 45", x.free(2, 3), 45);
        Check.due("40 and 2 a year: 4 * 90 / 60 is 6 in year 25", x.free(4, 5), 25);
        Check.read(x, "w9;b50,3;c0,0,0,1;c0,0,4,1;");
        Check.due("50 and 2 a year: 4 * 150 / 60 is 10 in year 50", x.free(0, 1), 50);
        Check.read(x, "w9;b49,3;c0,0,0,1;c0,0,4,1;");
        Check.due("49 and 2 a year: not in 50 years", x.free(0, 1), Check.NONE);
    }

    private static void holds() {
        BarkNames x = Check.of(Check.FOUR);
        Check.due("holds(5, 1, 0)", x.holds(5, 1, 0), 15);
        Check.due("holds(6, 1, 0): an oak's 6 is more than 5", x.holds(6, 1, 0), 13);
        Check.due("holds(5, 1, 1): beech, birch and pine close", x.holds(5, 1, 1), 2);
        Check.due("holds(5, 2, 1)", x.holds(5, 2, 1), 15);
        Check.due("holds(30, 20, 0)", x.holds(30, 20, 0), 0);
        Check.due("holds(8, 20, 2): a beech's 8 * 48 / 60 is 6", x.holds(8, 20, 2), 12);
        Check.due("holds(0, 1, 0)", x.holds(0, 1, 0), Check.BAD);
        Check.due("holds(31, 1, 0)", x.holds(31, 1, 0), Check.BAD);
        Check.due("holds(1, 0, 0)", x.holds(1, 0, 0), Check.BAD);
        Check.due("holds(1, 21, 0)", x.holds(1, 21, 0), Check.BAD);
        Check.due("holds(1, 1, 51)", x.holds(1, 1, 51), Check.BAD);
        Check.due("holds(1, 1, -1)", x.holds(1, 1, -1), Check.BAD);
        x = Check.of("w2;d10,0;d90,0;p10,2;");
        Check.due("holds(1, 1, 50)", x.holds(1, 1, 50), 7);
        Check.due("holds(2, 1, 39): 2 * 88 / 60 is 2", x.holds(2, 1, 39), 5);
        Check.due("holds(2, 1, 40): 2 * 90 / 60 is 3", x.holds(2, 1, 40), 1);
        Check.due("holds(12, 1, 0)", x.holds(12, 1, 0), 5);
    }

    private static void deep() {
        BarkNames x = Check.of(Check.FOUR);
        Check.due("deep(0, 0)", x.deep(0, 0), 1);
        Check.due("deep(0, 1)", x.deep(0, 1), 2);
        Check.due("deep(0, 19)", x.deep(0, 19), 20);
        Check.due("deep(0, 20)", x.deep(0, 20), Check.NONE);
        Check.due("deep(1, 1), an oak in an even year", x.deep(1, 1), 1);
        Check.due("deep(1, 2)", x.deep(1, 2), 2);
        Check.due("deep(1, 39)", x.deep(1, 39), 20);
        Check.due("deep(1, 40)", x.deep(1, 40), Check.NONE);
        Check.due("deep(2, 1), a birch in an even year", x.deep(2, 1), 2);
        Check.due("deep(2, 2)", x.deep(2, 2), 2);
        Check.due("deep(0, 51)", x.deep(0, 51), Check.BAD);
        Check.due("deep(0, -1)", x.deep(0, -1), Check.BAD);
        Check.due("deep(4, 0)", x.deep(4, 0), Check.BAD);
        Check.due("deep(-1, 0)", x.deep(-1, 0), Check.BAD);
        x = Check.of("w2;d10,0;");
        Check.due("deep in dead wood", x.deep(0, 50), 1);
    }

    private static void meet() {
        BarkNames x = Check.of("w2;p60,9;d60,0;c0,0,0,9;c0,0,29,1;c0,0,28,9;c0,0,30,9;c0,0,31,9;c1,0,1,9;c0,0,59,9;");
        // 0 with 1 (29), 3 (30), 4 (29); 1 with 6 (30); 2 with 6 (29); 3 with 6 (29)
        Check.due("pairs", x.meet(0, 0), 6);
        Check.due("the first", x.meet(0, 1), 1);
        x.years(1);
        Check.due("pairs, 1 healed", x.meet(0, 0), 4);
        Check.due("the first, 1 healed", x.meet(0, 1), 3);
        x.scrape(0);
        Check.due("pairs, 0 scraped off", x.meet(0, 0), 2);
        Check.due("the first, 10 a and b", x.meet(0, 1), 15);
        Check.due("none on the other", x.meet(1, 0), 0);
        Check.due("no first on the other", x.meet(1, 1), Check.NONE);
        Check.due("meet(0, 2)", x.meet(0, 2), Check.BAD);
        Check.due("meet(0, -1)", x.meet(0, -1), Check.BAD);
        Check.due("meet(2, 0)", x.meet(2, 0), Check.BAD);
        Check.due("meet(-1, 0)", x.meet(-1, 0), Check.BAD);
    }

    private static void rings() {
        BarkNames x = Check.of(Check.FOUR);
        Check.due("rings(0, 0)", x.rings(0, 0), 2);
        Check.due("rings(0, 1)", x.rings(0, 1), 3);
        Check.due("rings(1, 0)", x.rings(1, 0), 1);
        Check.due("rings(1, 1)", x.rings(1, 1), 2);
        Check.due("rings(2, 0), no cuts", x.rings(2, 0), 0);
        Check.due("rings(2, 1), no cuts", x.rings(2, 1), 0);
        Check.due("rings(3, 0)", x.rings(3, 0), 2);
        Check.due("rings(3, 1)", x.rings(3, 1), 1);
        x.years(3);
        Check.due("rings(0, 0), 1 and 3 are healed", x.rings(0, 0), 2);
        Check.due("rings(0, 1), 1 and 3 are healed", x.rings(0, 1), 1);
        Check.due("rings(4, 0)", x.rings(4, 0), Check.BAD);
        Check.due("rings(-1, 0)", x.rings(-1, 0), Check.BAD);
        Check.due("rings(0, 2)", x.rings(0, 2), Check.BAD);
        Check.due("rings(0, -1)", x.rings(0, -1), Check.BAD);
        x = Check.of("w2;d60,0;c0,0,30,1;c0,1,10,1;c0,2,32,1;c0,3,12,1;c0,4,8,1;c0,5,50,1;");
        Check.due("rings that lie across", x.rings(0, 0), 3);
        Check.due("the most, not the first", x.rings(0, 1), 3);
    }

    private static void gaps() {
        BarkNames x = Check.of(Check.FOUR);
        Check.fill(x, 5, 4, 3, 2, 1, 0, 0, 0, 4, 3, 3, 2, 20, 19);
        Check.due("beech", x.gaps(0, 0, 0, 5), 1 << 6);
        Check.due("beech, to healed", x.gaps(0, 0, 0, 8), 1 << 6);
        Check.due("beech, healed in a year", x.gaps(0, 0, 5, 3), 1 << 1);
        Check.due("oak, even and odd", x.gaps(4, 0, 8, 4), 1 << 4);
        Check.due("oak, healed now: never", x.gaps(4, 0, 5, 1), 0);
        Check.due("oak, 20", x.gaps(4, 0, 12, 2), 1 << 20);
        Check.due("beech, 20", x.gaps(0, 0, 12, 1), 0);
        x.years(3);
        Check.due("a healed one could have any", x.gaps(1, 0, 0, 3), 1 << 6);
        Check.due("oak from an odd year", x.gaps(4, 0, 0, 1), 1 << 6);
        Check.due("oak from an odd year, odd and even", x.gaps(4, 0, 9, 2), 1 << 4);
        Check.fill(x, new int[16]);
        Check.due("16 years", x.gaps(0, 0, 0, 16), 1 << 1);
        x.row(0, 0, 40);
        Check.due("17 years", x.gaps(0, 0, 0, 17), Check.BAD);
        x.row(1, 0, 1);
        x.set(1, 0, -1);
        Check.due("below healed", x.gaps(0, 1, 0, 1), 0);
    }

    private static void kinds() {
        BarkNames x = Check.of("w2;d40,9;p40,3;o40,6;");
        Check.fill(x, 44, 48);
        Check.due("a beech", x.which(0, 0, 0, 2, 0), 1 << 1);
        Check.fill(x, 42, 44);
        Check.due("an oak", x.which(0, 0, 0, 2, 0), 1 << 2);
        Check.fill(x, 46, 50);
        Check.due("a birch", x.which(0, 0, 0, 2, 0), 1 << 3);
        Check.fill(x, 49, 58);
        Check.due("a pine", x.which(0, 0, 0, 2, 0), 1 << 4);
        Check.fill(x, 40, 40);
        Check.due("a dead one", x.which(0, 0, 0, 2, 0), 1 << 5);
        Check.fill(x, 42, 44, 46, 43);
        Check.due("a beech of 3", x.which(1, 0, 0, 3, 0), 1 << 1);
        Check.due("a pine of 3", x.which(1, 0, 3, 1, 0), 1 << 4);
        x.years(1);
        Check.fill(x, 44, 41 + 3);
        Check.due("an odd year: a beech, a birch", x.which(2, 0, 0, 1, 0), 1 << 1 | 1 << 3);
        Check.due("no such kind", x.which(2, 0, 0, 2, 0), 0);
        Check.fill(x, 44, 49);
        Check.due("odd, even: a birch", x.which(2, 0, 0, 2, 0), 1 << 3);
    }

    private static void suns() {
        BarkNames x = Check.of("w2;b40,0;o40,0;y40,0;p40,0;");
        Check.fill(x, 42, 44);
        Check.due("a beech's", x.which(0, 0, 0, 2, 1), 1 << 3 | 1 << 4 | 1 << 5);
        Check.due("a pine's", x.which(3, 0, 0, 2, 1), 1 << 2);
        Check.due("an oak's", x.which(1, 0, 0, 2, 1), 1 << 9);
        Check.fill(x, 40, 41, 43, 44, 53);
        Check.due("an oak's, none", x.which(1, 0, 0, 1, 1), 7);
        Check.due("an oak's, 1", x.which(1, 0, 1, 1, 1), 0x1F8);
        Check.due("a birch's", x.which(2, 0, 2, 2, 1), 7);
        Check.read(x, "w2;d40,7;");
        Check.due("a dead one's", x.which(0, 0, 0, 1, 1), 1023);
        Check.due("a dead one's, not so", x.which(0, 0, 1, 1, 1), 0);
    }

    private static void rowsRefused() {
        BarkNames x = Check.of("w2;d40,0;c0,0,0,5;");
        x.row(0, 0, 3);
        Check.due("gaps of cut 1", x.gaps(1, 0, 0, 1), Check.BAD);
        Check.due("gaps of cut -1", x.gaps(-1, 0, 0, 1), Check.BAD);
        Check.due("gaps of row 8", x.gaps(0, 8, 0, 1), Check.BAD);
        Check.due("gaps of row -1", x.gaps(0, -1, 0, 1), Check.BAD);
        Check.due("gaps of no years", x.gaps(0, 0, 0, 0), Check.BAD);
        Check.due("gaps, BAD ahead of NULL", x.gaps(0, 1, 0, 17), Check.BAD);
        Check.due("gaps, NULL ahead of PLACE", x.gaps(0, 1, -1, 1), Check.NULL);
        Check.due("gaps, PLACE -1", x.gaps(0, 0, -1, 1), Check.PLACE);
        Check.due("gaps, PLACE beyond", x.gaps(0, 0, 2, 2), Check.PLACE);
        Check.due("gaps, PLACE far beyond", x.gaps(0, 0, Integer.MAX_VALUE, 16), Check.PLACE);
        Check.due("gaps to the end", x.gaps(0, 0, 0, 3), 0);
        Check.due("which of tree 1", x.which(1, 0, 0, 1, 0), Check.BAD);
        Check.due("which of tree -1", x.which(-1, 0, 0, 1, 0), Check.BAD);
        Check.due("which of row 8", x.which(0, 8, 0, 1, 0), Check.BAD);
        Check.due("which of row -1", x.which(0, -1, 0, 1, 0), Check.BAD);
        Check.due("which of no years", x.which(0, 0, 0, 0, 0), Check.BAD);
        Check.due("which of 17 years", x.which(0, 0, 0, 17, 0), Check.BAD);
        Check.due("which, suns 2", x.which(0, 0, 0, 1, 2), Check.BAD);
        Check.due("which, suns -1", x.which(0, 0, 0, 1, -1), Check.BAD);
        Check.due("which, BAD ahead of NULL", x.which(0, 1, 0, 1, 2), Check.BAD);
        Check.due("which, NULL ahead of PLACE", x.which(0, 1, 9, 1, 1), Check.NULL);
        Check.due("which, PLACE -1", x.which(0, 0, -1, 1, 0), Check.PLACE);
        Check.due("which, PLACE beyond", x.which(0, 0, 3, 1, 1), Check.PLACE);
    }

    private static void fraction(BarkNames x, int a, int b, int c, int above, int below) {
        String call = "storm(" + a + ", " + b + ", " + c;
        Check.due(call + ", 0)", x.storm(a, b, c, 0), above);
        Check.due(call + ", 1)", x.storm(a, b, c, 1), below);
    }

    private static void storm() {
        BarkNames x = Check.of(Check.FOUR);
        fraction(x, 0, 1, 3, 49, 100);
        fraction(x, 0, 2, 3, 343, 1000);
        fraction(x, 2, 0, 3, 343, 1000);
        fraction(x, 0, 2, 0, 1, 1);
        fraction(x, 0, 2, 10, 0, 1);
        fraction(x, 0, 2, 5, 1, 8);
        fraction(x, 2, 3, 3, 0, 1);
        fraction(x, 2, 3, 0, 0, 1);
        Check.due("two trees", x.storm(0, 4, 3, 0), Check.BAD);
        Check.due("alike", x.storm(1, 1, 3, 0), Check.BAD);
        Check.due("c 11", x.storm(0, 1, 11, 0), Check.BAD);
        Check.due("c -1", x.storm(0, 1, -1, 0), Check.BAD);
        Check.due("what 2", x.storm(0, 1, 3, 2), Check.BAD);
        Check.due("what -1", x.storm(0, 1, 3, -1), Check.BAD);
        Check.due("storm(0, 8, 3, 0)", x.storm(0, 8, 3, 0), Check.BAD);
        Check.due("storm(-1, 0, 3, 0)", x.storm(-1, 0, 3, 0), Check.BAD);
        x.years(3);
        fraction(x, 0, 1, 0, 0, 1);
        x.years(10);
        fraction(x, 0, 1, 7, 0, 1);
        x = Check.of("w2;d60,0;c0,0,0,1;c0,0,3,1;c0,0,1,1;c0,0,2,1;");
        // both stay and one of the two between: 0.81 * 0.99
        fraction(x, 0, 1, 1, 8019, 10000);
        x = Check.of("w2;d60,0;c0,0,0,1;c0,0,14,1;c0,0,2,1;c0,0,4,1;c0,0,6,1;c0,0,8,1;c0,0,10,1;c0,0,12,1;");
        fraction(x, 0, 1, 1, 43046721, 100000000);
        fraction(x, 0, 1, 9, 1, 100000000);
    }

    private static void changesNothing() {
        BarkNames x = Check.of(Check.FOUR);
        Check.fill(x, 1, 2, 3);
        x.girth(0, 50);
        x.left(50);
        x.free(0, 1);
        x.holds(1, 1, 50);
        x.deep(0, 50);
        x.meet(0, 1);
        x.rings(0, 0);
        x.gaps(0, 0, 0, 3);
        x.which(0, 0, 0, 3, 0);
        x.which(0, 0, 0, 3, 1);
        x.storm(0, 1, 5, 0);
        Check.due("girth", x.tree(0, 0), 40);
        Check.due("sun", x.tree(0, 1), 9);
        Check.due("kind", x.kind(0), 1);
        Check.due("cuts", x.left(0), 255);
        Check.due("depth", x.cutHas(0, 3), 6);
        Check.due("year", x.count(4), 0);
        Check.due("acts", x.count(6), 0);
    }
}
