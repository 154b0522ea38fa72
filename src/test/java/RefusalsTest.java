import java.util.ArrayList;
import java.util.List;
import java.util.function.ToIntFunction;

/**
 * What is refused, found, foretold or only looked at changes nothing but status(): each such call is made on one of
 * two objects that were led the same way, and all that can be seen of the two is the same.
 */
public final class RefusalsTest {
    private static final int MIN = Integer.MIN_VALUE, MAX = Integer.MAX_VALUE;

    public static void main(String[] args) {
        Check.says("What is refused, or found, changes nothing but status().");
        rows();
        copies();
        tape();
        years();
        cuts();
        undoOfNone();
        looks();
        foretold();
        told();
        images();
        asks();
        Check.says("FORETOLD (nothing changes)");
        answersOfForetold();
        Check.says("Nothing is promised beyond the answers and state changes described above");
        answersOfLooks();
        Check.end();
    }

    /** A beech and a pine, four cuts, one of them healed; a year, a cut, an image, rows, a fault, a trace, a tape. */
    private static BarkNames led() {
        BarkNames x = Check.of("w5;b40,9;p20,3;c0,1,0,6;c0,2,5,3;c1,7,9,1;");
        x.years(1);
        x.image(0);
        x.cut(1, 8, 39, 20);
        x.row(0, 2, 4);
        for (int i = 0; i < 4; i++) {
            x.set(0, i, 4 - i);
        }
        x.row(1, 1, 2);
        x.set(1, 0, 3);
        x.ask(1, 1);
        Check.read(x, "w1;");
        Check.feed(x, "w2");
        return x;
    }

    /** All that can be seen, but status(); it is undone and restored for it, so this is the last look. */
    private static List<Integer> seen(BarkNames x) {
        List<Integer> seen = new ArrayList<>();
        seen.add(x.fault());
        for (int i = 0; i < 8; i++) {
            seen.add(x.trace(i));
        }
        for (int row = 0; row < 4; row++) {
            seen.add(x.copy(row, 0, 0, 0, 0));
            seen.add(x.copy(row, 0, 1, 0, 0));
            for (int size = 1; size < 6; size++) {
                seen.add(x.copy(row, size, row, size, 0));
            }
        }
        // a row that is as told goes on with 3, 2, 1 from a depth of 5
        seen.add(x.gaps(0, 0, 0, 4));
        seen.add(x.gaps(0, 1, 0, 1));
        seeWood(x, seen);
        for (int act = 0; act < 4; act++) {
            seen.add(x.undo());
            seen.add(x.count(4));
            seen.add(x.count(2));
            seen.add(x.cutHas(0, 3));
        }
        seen.add(x.wood());
        seen.add(x.restore(1));
        seen.add(x.restore(0));
        seeWood(x, seen);
        return seen;
    }

    private static void seeWood(BarkNames x, List<Integer> seen) {
        for (int what = 0; what < 8; what++) {
            seen.add(x.count(what));
        }
        for (int tree = 0; tree < 4; tree++) {
            seen.add(x.kind(tree));
            for (int what = 0; what < 4; what++) {
                seen.add(x.tree(tree, what));
            }
        }
        for (int cut = 0; cut < 5; cut++) {
            for (int what = 0; what < 4; what++) {
                seen.add(x.cutHas(cut, what));
            }
        }
    }

    private static void same(String call, BarkNames x, ToIntFunction<BarkNames> how, int want) {
        BarkNames other = led();
        Check.due(call, how.applyAsInt(x), want);
        List<Integer> seen = seen(x);
        List<Integer> due = seen(other);
        Check.due(call + ": so much is seen behind it", seen.size(), due.size());
        for (int i = 0; i < Math.min(seen.size(), due.size()); i++) {
            Check.due(call + ": number " + i + " that is seen behind it", seen.get(i), due.get(i));
        }
    }

    /** A call that is refused: BAD, STATE, FULL; status() stays, too. */
    private static void refused(String call, ToIntFunction<BarkNames> how, int want) {
        BarkNames x = led();
        x.row(2, 0, -1);
        how.applyAsInt(x);
        Check.due("status behind " + call, x.status(), 4);
        same(call, led(), how, want);
    }

    /** A call with a finding, which status() tells. */
    private static void found(String call, ToIntFunction<BarkNames> how, int want) {
        BarkNames x = led();
        how.applyAsInt(x);
        Check.due("status behind " + call, x.status(), -1000010 - want);
        same(call, led(), how, want);
    }

    private static void rows() {
        refused("row(8, 0, 1)", x -> x.row(8, 0, 1), Check.BAD);
        refused("row(0, 3, 1)", x -> x.row(0, 3, 1), Check.BAD);
        refused("row(0, -1, 1)", x -> x.row(0, -1, 1), Check.BAD);
        refused("row(0, 2, 41)", x -> x.row(0, 2, 41), Check.BAD);
        found("row(0, 2, -1)", x -> x.row(0, 2, -1), Check.SIZE);
        found("row(2, 0, MIN)", x -> x.row(2, 0, MIN), Check.SIZE);
        refused("set(8, 0, 7)", x -> x.set(8, 0, 7), Check.BAD);
        refused("set(-1, 0, 7)", x -> x.set(-1, 0, 7), Check.BAD);
        found("set(2, 0, 7)", x -> x.set(2, 0, 7), Check.NULL);
        found("set(0, 4, 7)", x -> x.set(0, 4, 7), Check.PLACE);
        found("set(0, -1, 7)", x -> x.set(0, -1, 7), Check.PLACE);
        found("set(1, 2, 7)", x -> x.set(1, 2, 7), Check.PLACE);
        refused("drop(8)", x -> x.drop(8), Check.BAD);
        refused("drop(-1)", x -> x.drop(-1), Check.BAD);
        found("drop(2)", x -> x.drop(2), Check.NULL);
    }

    private static void copies() {
        refused("copy(8, 0, 0, 0, 1)", x -> x.copy(8, 0, 0, 0, 1), Check.BAD);
        refused("copy(0, 0, 8, 0, 1)", x -> x.copy(0, 0, 8, 0, 1), Check.BAD);
        found("copy(2, 0, 0, 0, 1)", x -> x.copy(2, 0, 0, 0, 1), Check.NULL);
        found("copy(0, 0, 2, 0, 1)", x -> x.copy(0, 0, 2, 0, 1), Check.NULL);
        found("copy(0, 0, 1, 0, 1)", x -> x.copy(0, 0, 1, 0, 1), Check.STORE);
        found("copy(0, 0, 0, 2, 3)", x -> x.copy(0, 0, 0, 2, 3), Check.PLACE);
        found("copy(0, 2, 0, 0, 3)", x -> x.copy(0, 2, 0, 0, 3), Check.PLACE);
        found("copy(0, -1, 0, 0, 2)", x -> x.copy(0, -1, 0, 0, 2), Check.PLACE);
        found("copy(0, 0, 0, -1, 2)", x -> x.copy(0, 0, 0, -1, 2), Check.PLACE);
        found("copy(0, 1, 0, 0, -1)", x -> x.copy(0, 1, 0, 0, -1), Check.PLACE);
        found("copy(0, 1, 0, 0, MAX)", x -> x.copy(0, 1, 0, 0, MAX), Check.PLACE);
    }

    private static void tape() {
        refused("feed(-1)", x -> x.feed(-1), Check.BAD);
        refused("feed(256)", x -> x.feed(256), Check.BAD);
        refused("feed(MIN)", x -> x.feed(MIN), Check.BAD);
        BarkNames x = Check.of("w2;d10,0;");
        for (int i = 0; i < 141; i++) {
            x.feed(i < 3 ? "w3;".charAt(i) : 'x');
        }
        Check.due("feed, FULL", x.feed('w'), Check.FULL);
        Check.due("the first that is none", x.wood(), -1000103);
    }

    private static void years() {
        refused("years(0)", x -> x.years(0), Check.BAD);
        refused("years(21)", x -> x.years(21), Check.BAD);
        refused("years(-1)", x -> x.years(-1), Check.BAD);
        BarkNames x = Check.of("w2;p10,1;c0,0,0,9;");
        for (int i = 0; i < 49; i++) {
            x.years(20);
        }
        x.anew(0, 5);
        Check.due("years, FULL", x.years(20), Check.FULL);
        Check.due("the year", x.count(4), 980);
        Check.due("the girth", x.tree(0, 0), 990);
        Check.due("the latest act is not a year", x.undo(), 23);
        Check.due("but the cut anew", x.cutHas(0, 3), 9);
    }

    private static void cuts() {
        refused("cut(2, 0, 20, 1)", x -> x.cut(2, 0, 20, 1), Check.BAD);
        refused("cut(0, 26, 20, 1)", x -> x.cut(0, 26, 20, 1), Check.BAD);
        refused("cut(0, 0, 60, 1)", x -> x.cut(0, 0, 60, 1), Check.BAD);
        refused("cut(0, 0, 20, 0)", x -> x.cut(0, 0, 20, 0), Check.BAD);
        refused("cut(0, 0, 20, 21)", x -> x.cut(0, 0, 20, 21), Check.BAD);
        refused("cut(0, 9, 5, 20)", x -> x.cut(0, 9, 5, 20), Check.STATE);
        refused("cut(1, 9, 9, 20), HEALED", x -> x.cut(1, 9, 9, 20), Check.STATE);
        refused("anew(4, 1)", x -> x.anew(4, 1), Check.BAD);
        refused("anew(-1, 1)", x -> x.anew(-1, 1), Check.BAD);
        refused("anew(0, 0)", x -> x.anew(0, 0), Check.BAD);
        refused("anew(0, 21)", x -> x.anew(0, 21), Check.BAD);
        refused("anew(2, 1), HEALED", x -> x.anew(2, 1), Check.STATE);
        refused("scrape(4)", x -> x.scrape(4), Check.BAD);
        refused("scrape(-1)", x -> x.scrape(-1), Check.BAD);
        BarkNames x = Check.of("w2;d10,0;c0,0,0,1;c0,0,1,1;c0,0,2,1;c0,0,3,1;c0,0,4,1;c0,0,5,1;c0,0,6,1;c0,9,7,3;");
        Check.due("cut, FULL", x.cut(0, 0, 8, 1), Check.FULL);
        Check.due("the last", x.cutHas(7, 1), 9);
        Check.due("how many", x.count(2), 8);
        Check.due("no act", x.count(6), 0);
    }

    private static void undoOfNone() {
        BarkNames x = Check.of("w2;p10,9;c0,0,0,1;");
        x.years(1);
        x.undo();
        Check.due("undo of none", x.undo(), Check.STATE);
        Check.due("the year", x.count(4), 0);
        Check.due("the girth", x.tree(0, 0), 10);
        Check.due("the depth", x.cutHas(0, 3), 1);
    }

    private static void looks() {
        int[] bad = {-1, 4, MIN, MAX};
        for (int it : bad) {
            refused("tree(" + it + ", 0)", x -> x.tree(it, 0), Check.BAD);
            refused("tree(0, " + it + ")", x -> x.tree(0, it), Check.BAD);
            refused("cutHas(" + it + ", 0)", x -> x.cutHas(it, 0), Check.BAD);
            refused("cutHas(0, " + it + ")", x -> x.cutHas(0, it), Check.BAD);
            refused("apart(0, " + it + ")", x -> x.apart(0, it), Check.BAD);
            refused("together(" + it + ", 0)", x -> x.together(it, 0), Check.BAD);
            refused("kind(" + it + ")", x -> x.kind(it), Check.BAD);
        }
        refused("count(8)", x -> x.count(8), Check.BAD);
        refused("count(-1)", x -> x.count(-1), Check.BAD);
        refused("apart(0, 0)", x -> x.apart(0, 0), Check.BAD);
        refused("together(0, 3)", x -> x.together(0, 3), Check.BAD);
    }

    private static void foretold() {
        int[] noYears = {-1, 51, MIN, MAX};
        for (int d : noYears) {
            refused("girth(0, " + d + ")", x -> x.girth(0, d), Check.BAD);
            refused("left(" + d + ")", x -> x.left(d), Check.BAD);
            refused("holds(1, 1, " + d + ")", x -> x.holds(1, 1, d), Check.BAD);
            refused("deep(0, " + d + ")", x -> x.deep(0, d), Check.BAD);
        }
        refused("girth(2, 0)", x -> x.girth(2, 0), Check.BAD);
        refused("deep(2, 0)", x -> x.deep(2, 0), Check.BAD);
        refused("free(0, 0)", x -> x.free(0, 0), Check.BAD);
        refused("free(0, 3)", x -> x.free(0, 3), Check.BAD);
        refused("free(4, 0)", x -> x.free(4, 0), Check.BAD);
        refused("holds(0, 1, 0)", x -> x.holds(0, 1, 0), Check.BAD);
        refused("holds(31, 1, 0)", x -> x.holds(31, 1, 0), Check.BAD);
        refused("holds(1, 0, 0)", x -> x.holds(1, 0, 0), Check.BAD);
        refused("holds(1, 21, 0)", x -> x.holds(1, 21, 0), Check.BAD);
        refused("meet(2, 0)", x -> x.meet(2, 0), Check.BAD);
        refused("meet(0, 2)", x -> x.meet(0, 2), Check.BAD);
        refused("rings(2, 0)", x -> x.rings(2, 0), Check.BAD);
        refused("rings(0, 2)", x -> x.rings(0, 2), Check.BAD);
        refused("storm(0, 3, 1, 0)", x -> x.storm(0, 3, 1, 0), Check.BAD);
        refused("storm(0, 1, 11, 0)", x -> x.storm(0, 1, 11, 0), Check.BAD);
        refused("storm(0, 1, -1, 0)", x -> x.storm(0, 1, -1, 0), Check.BAD);
        refused("storm(0, 1, 1, 2)", x -> x.storm(0, 1, 1, 2), Check.BAD);
    }

    private static void told() {
        refused("gaps(4, 0, 0, 1)", x -> x.gaps(4, 0, 0, 1), Check.BAD);
        refused("gaps(0, 8, 0, 1)", x -> x.gaps(0, 8, 0, 1), Check.BAD);
        refused("gaps(0, 0, 0, 0)", x -> x.gaps(0, 0, 0, 0), Check.BAD);
        refused("gaps(0, 0, 0, 17)", x -> x.gaps(0, 0, 0, 17), Check.BAD);
        found("gaps(0, 2, 0, 1)", x -> x.gaps(0, 2, 0, 1), Check.NULL);
        found("gaps(0, 0, 3, 2)", x -> x.gaps(0, 0, 3, 2), Check.PLACE);
        found("gaps(0, 0, -1, 2)", x -> x.gaps(0, 0, -1, 2), Check.PLACE);
        found("gaps(0, 0, MAX, 16)", x -> x.gaps(0, 0, MAX, 16), Check.PLACE);
        refused("which(2, 0, 0, 1, 0)", x -> x.which(2, 0, 0, 1, 0), Check.BAD);
        refused("which(0, 8, 0, 1, 0)", x -> x.which(0, 8, 0, 1, 0), Check.BAD);
        refused("which(0, 0, 0, 17, 0)", x -> x.which(0, 0, 0, 17, 0), Check.BAD);
        refused("which(0, 0, 0, 1, 2)", x -> x.which(0, 0, 0, 1, 2), Check.BAD);
        found("which(0, 2, 0, 1, 0)", x -> x.which(0, 2, 0, 1, 0), Check.NULL);
        found("which(0, 0, 4, 1, 1)", x -> x.which(0, 0, 4, 1, 1), Check.PLACE);
        found("which(0, 0, -1, 1, 1)", x -> x.which(0, 0, -1, 1, 1), Check.PLACE);
    }

    private static void images() {
        refused("image(2)", x -> x.image(2), Check.BAD);
        refused("image(-1)", x -> x.image(-1), Check.BAD);
        refused("restore(2)", x -> x.restore(2), Check.BAD);
        refused("restore(-1)", x -> x.restore(-1), Check.BAD);
        refused("restore(1), none was kept", x -> x.restore(1), Check.STATE);
    }

    private static void asks() {
        refused("as(2, 0)", x -> x.as(2, 0), Check.BAD);
        refused("as(0, 6)", x -> x.as(0, 6), Check.BAD);
        refused("as(0, -1)", x -> x.as(0, -1), Check.BAD);
        found("as(0, 4)", x -> x.as(0, 4), Check.KIND);
        found("as(1, 5)", x -> x.as(1, 5), Check.KIND);
        refused("ask(2, 0)", x -> x.ask(2, 0), Check.BAD);
        refused("ask(0, 2)", x -> x.ask(0, 2), Check.BAD);
        refused("ask(0, -1)", x -> x.ask(0, -1), Check.BAD);
    }

    private static void answersOfForetold() {
        same("girth(0, 50)", led(), x -> x.girth(0, 50), 244);
        same("left(50)", led(), x -> x.left(50), 0);
        same("free(0, 1)", led(), x -> x.free(0, 1), 2);
        same("holds(1, 20, 19)", led(), x -> x.holds(1, 20, 19), 3);
        same("deep(1, 5)", led(), x -> x.deep(1, 5), 6);
        same("meet(1, 0)", led(), x -> x.meet(1, 0), 0);
        same("rings(0, 1)", led(), x -> x.rings(0, 1), 2);
        same("gaps(0, 0, 0, 4)", led(), x -> x.gaps(0, 0, 0, 4), 1 << 5);
        same("which(0, 0, 0, 4, 0)", led(), x -> x.which(0, 0, 0, 4, 0), 0);
        same("which(0, 0, 0, 4, 1)", led(), x -> x.which(0, 0, 0, 4, 1), 0);
        same("storm(0, 1, 3, 0)", led(), x -> x.storm(0, 1, 3, 0), 49);
    }

    private static void answersOfLooks() {
        same("tree(0, 0)", led(), x -> x.tree(0, 0), 44);
        same("cutHas(0, 3)", led(), x -> x.cutHas(0, 3), 5);
        same("apart(0, 1)", led(), x -> x.apart(0, 1), 3);
        same("apart(2, 3), HEALED", led(), x -> x.apart(2, 3), Check.NONE);
        same("together(0, 1)", led(), x -> x.together(0, 1), 1);
        same("kind(1)", led(), x -> x.kind(1), 4);
        same("as(0, 0)", led(), x -> x.as(0, 0), 0);
        same("trace(0)", led(), x -> x.trace(0), 23);
        same("trace(99)", led(), x -> x.trace(99), Check.NONE);
        same("count(6)", led(), x -> x.count(6), 2);
        same("status()", led(), x -> x.status(), 0);
        same("fault()", led(), x -> x.fault(), 2);
    }
}
