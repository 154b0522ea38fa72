import java.util.Random;

/** Runs of random calls, the same ones each time, with the answers of the model; and of wild ones, none of which may throw. */
public final class RandomRunsTest {
    private final Random random;
    private final BarkNames x = new BarkNames();
    private final Model model = new Model();

    private RandomRunsTest(int seed) {
        random = new Random(seed);
    }

    public static void main(String[] args) {
        for (int seed = 0; seed < 1500; seed++) {
            new RandomRunsTest(seed).run();
        }
        for (int seed = 0; seed < 300; seed++) {
            new RandomRunsTest(seed).wild();
        }
        Check.end();
    }

    private int upTo(int most) {
        return random.nextInt(most + 1);
    }

    /** Mostly within 0 .. most, now and then just beyond it. */
    private int near(int most) {
        return random.nextInt(20) == 0 ? random.nextInt(most + 4) - 1 : upTo(most);
    }

    private void run() {
        tell(text(random.nextInt(10) == 0));
        for (int i = 0; i < 80; i++) {
            switch (random.nextInt(12)) {
                case 0: case 1: case 2: act(); break;
                case 3: case 4: case 5: look(); break;
                case 6: case 7: case 8: foretell(); break;
                case 9: case 10: pairs(); break;
                default: seldom(); break;
            }
        }
    }

    private String text(boolean spoilt) {
        StringBuilder s = new StringBuilder();
        s.append('w').append(2 + upTo(7)).append(';');
        int trees = 1 + upTo(3);
        for (int i = 0; i < trees; i++) {
            s.append("boypd".charAt(upTo(4))).append(10 + upTo(80)).append(',').append(upTo(9)).append(';');
        }
        int cuts = near(8);
        int kindTree = upTo(trees - 1);
        for (int i = 0; i < cuts; i++) {
            int tree = random.nextBoolean() ? kindTree : upTo(trees - 1);
            s.append('c').append(tree).append(',').append(upTo(25)).append(',');
            s.append(upTo(59)).append(',').append(1 + upTo(19)).append(';');
        }
        if (spoilt) {
            int at = upTo(s.length() - 1);
            String by = "w;,c0123456789bo x";
            switch (upTo(2)) {
                case 0: s.setCharAt(at, by.charAt(upTo(by.length() - 1))); break;
                case 1: s.insert(at, by.charAt(upTo(by.length() - 1))); break;
                default: s.deleteCharAt(at); break;
            }
        }
        return s.toString();
    }

    private void tell(String text) {
        for (int i = 0; i < text.length(); i++) {
            Check.due("feed", x.feed(text.charAt(i)), model.feed(text.charAt(i)));
        }
        Check.due("count(7)", x.count(7), model.count(7));
        Check.due("wood of " + text, x.wood(), model.wood());
        Check.due("fault of " + text, x.fault(), model.fault);
    }

    private void act() {
        int cut = near(7);
        int tree = near(3);
        int depth = 1 + near(19);
        switch (random.nextInt(6)) {
            case 0: {
                int n = random.nextInt(8) == 0 ? near(21) : 1 + upTo(2);
                Check.due("years " + n, x.years(n), model.years(n));
                break;
            }
            case 1: {
                int letter = near(25);
                int place = near(59);
                Check.due("cut", x.cut(tree, letter, place, depth), model.cut(tree, letter, place, depth));
                break;
            }
            case 2:
                Check.due("anew", x.anew(cut, depth), model.anew(cut, depth));
                break;
            case 3:
                Check.due("scrape", x.scrape(cut), model.scrape(cut));
                break;
            default:
                Check.due("undo", x.undo(), model.undo());
                break;
        }
    }

    private void look() {
        int tree = near(3);
        int cut = near(7);
        int what = near(3);
        Check.due("tree", x.tree(tree, what), model.tree(tree, what));
        Check.due("cutHas", x.cutHas(cut, what), model.cutHas(cut, what));
        Check.due("kind", x.kind(tree), model.kind(tree));
        int kind = near(5);
        Check.due("as", x.as(tree, kind), model.as(tree, kind));
        Check.due("ask", x.ask(tree, what % 2), model.ask(tree, what % 2));
        for (int i = -1; i < 8; i++) {
            Check.due("trace", x.trace(i), model.trace(i));
        }
        for (int i = 1; i <= 8; i++) {
            Check.due("count " + i, x.count(i), model.count(i));
        }
    }

    private void foretell() {
        int tree = near(3);
        int d = near(50);
        int what = near(1);
        Check.due("girth", x.girth(tree, d), model.girth(tree, d));
        Check.due("left", x.left(d), model.left(d));
        Check.due("deep", x.deep(tree, d), model.deep(tree, d));
        Check.due("meet", x.meet(tree, what), model.meet(tree, what));
        Check.due("rings", x.rings(tree, what), model.rings(tree, what));
        int p = near(30);
        int depth = near(20);
        int soon = upTo(1) == 0 ? d : upTo(5);
        Check.due("holds", x.holds(p, depth, soon), model.holds(p, depth, soon));
        told(upTo(7), upTo(3), 1 + upTo(15));
    }

    /** A row that is told as it goes, by another depth, kind or sun; at times it is spoilt. */
    private void told(int cut, int tree, int n) {
        if (model.noTree(tree) || model.noCut(cut)) {
            return;
        }
        Model.Wood w = model.wood.another();
        w.cuts.get(cut).depth = 1 + upTo(19);
        Model.Tree t = w.trees.get(tree);
        boolean suns = random.nextBoolean();
        if (suns) {
            t.sun = upTo(9);
        } else {
            t.sort = "boypd".charAt(upTo(4));
        }
        int spoilt = random.nextInt(3) == 0 ? upTo(n - 1) : -1;
        int[] depths = new int[n];
        int[] girths = new int[n];
        for (int k = 0; k < n; k++) {
            Model.Wood then = w.after(k + 1);
            depths[k] = then.cuts.get(cut).depth + (k == spoilt ? 1 : 0);
            girths[k] = then.trees.get(tree).girth + (k == spoilt ? 1 : 0);
        }
        Check.fill(x, depths);
        Check.due("gaps", x.gaps(cut, 0, 0, n), model.gaps(cut, depths));
        Check.fill(x, girths);
        Check.due("which", x.which(tree, 0, 0, n, suns ? 1 : 0), model.which(tree, girths, suns));
    }

    private void pairs() {
        int a = near(7);
        int b = near(7);
        Check.due("apart", x.apart(a, b), model.apart(a, b));
        Check.due("together", x.together(a, b), model.together(a, b));
        Check.due("free", x.free(a, b), model.free(a, b));
        int c = near(10);
        int what = near(1);
        Check.due("storm", x.storm(a, b, c, what), model.storm(a, b, c, what));
    }

    private void seldom() {
        int k = near(1);
        switch (random.nextInt(4)) {
            case 0: Check.due("image", x.image(k), model.image(k)); break;
            case 1: Check.due("restore", x.restore(k), model.restore(k)); break;
            case 2: tell(text(random.nextBoolean())); break;
            default: Check.due("fault", x.fault(), model.fault); break;
        }
    }

    private int any() {
        int[] ends = {0, 1, -1, 2, 7, 8, 20, 59, Integer.MAX_VALUE, Integer.MIN_VALUE, Integer.MAX_VALUE - 1, 40, 16, 50};
        return random.nextInt(4) == 0 ? random.nextInt() : ends[random.nextInt(ends.length)];
    }

    private void wild() {
        if (random.nextInt(4) != 0) {
            Check.feed(x, text(false));
            x.wood();
        }
        for (int i = 0; i < 400; i++) {
            if (random.nextBoolean()) {
                wildRowsAndActs();
            } else {
                wildAnswers();
            }
        }
    }

    private void wildRowsAndActs() {
        switch (random.nextInt(14)) {
            case 0: x.row(any(), any(), any()); break;
            case 1: x.set(any(), any(), any()); break;
            case 2: x.copy(any(), any(), any(), any(), any()); break;
            case 3: x.drop(any()); break;
            case 4: x.feed(any()); break;
            case 5: x.wood(); break;
            case 6: x.years(any()); break;
            case 7: x.cut(any(), any(), any(), any()); break;
            case 8: x.anew(any(), any()); break;
            case 9: x.scrape(any()); break;
            case 10: x.undo(); break;
            case 11: x.image(any()); break;
            case 12: x.restore(any()); break;
            default: x.gaps(any(), any(), any(), any()); break;
        }
    }

    private void wildAnswers() {
        switch (random.nextInt(18)) {
            case 0: x.tree(any(), any()); break;
            case 1: x.cutHas(any(), any()); break;
            case 2: x.apart(any(), any()); break;
            case 3: x.together(any(), any()); break;
            case 4: x.girth(any(), any()); break;
            case 5: x.left(any()); break;
            case 6: x.free(any(), any()); break;
            case 7: x.holds(any(), any(), any()); break;
            case 8: x.deep(any(), any()); break;
            case 9: x.meet(any(), any()); break;
            case 10: x.rings(any(), any()); break;
            case 11: x.which(any(), any(), any(), any(), any()); break;
            case 12: x.storm(any(), any(), any(), any()); break;
            case 13: x.kind(any()); break;
            case 14: x.as(any(), any()); break;
            case 15: x.ask(any(), any()); break;
            case 16: x.trace(any()); break;
            default: x.count(any()); break;
        }
    }
}
