import java.math.BigInteger;
import java.util.ArrayDeque;
import java.util.ArrayList;
import java.util.Arrays;
import java.util.Deque;
import java.util.List;
import java.util.TreeSet;
import java.util.regex.Matcher;
import java.util.regex.Pattern;

/**
 * What BarkNames must answer, worked out in another way: objects that are copied whole, texts by
 * patterns, chances by trying all storms with great numbers. Rows are not in it.
 */
final class Model {
    private static final int NONE = BarkNames.NONE, BAD = BarkNames.BAD;
    private static final int STATE = BarkNames.STATE, FULL = BarkNames.FULL;

    static final class Tree {
        char sort;
        int girth;
        int sun;
    }

    static final class Cut {
        int tree;
        int letter;
        int place;
        int depth;
    }

    static final class Wood {
        int wide;
        int year;
        final List<Tree> trees = new ArrayList<>();
        final List<Cut> cuts = new ArrayList<>();

        Wood another() {
            Wood w = new Wood();
            w.wide = wide;
            w.year = year;
            for (Tree t : trees) {
                w.tree(t.sort, t.girth, t.sun);
            }
            for (Cut c : cuts) {
                w.cut(c.tree, c.letter, c.place, c.depth);
            }
            return w;
        }

        void tree(char sort, int girth, int sun) {
            Tree t = new Tree();
            t.sort = sort;
            t.girth = girth;
            t.sun = sun;
            trees.add(t);
        }

        void cut(int tree, int letter, int place, int depth) {
            Cut c = new Cut();
            c.tree = tree;
            c.letter = letter;
            c.place = place;
            c.depth = depth;
            cuts.add(c);
        }

        boolean taken(int tree, int place) {
            return cuts.stream().anyMatch(c -> c.tree == tree && c.place == place);
        }

        int grows(int tree) {
            Tree t = trees.get(tree);
            int by = 0;
            if (t.sort == 'p') {
                by = t.sun;
            } else if (t.sort != 'd') {
                by = t.sun / 3 + 1;
                by = t.sort == 'o' ? by / 2 : by;
                by += t.sort == 'y' && (year & 1) == 0 ? 2 : 0;
            }
            return t.girth + by > 999 ? 999 - t.girth : by;
        }

        Wood after(int years) {
            Wood w = another();
            for (int y = 0; y < years; y++) {
                for (int i = 0; i < w.trees.size(); i++) {
                    Tree t = w.trees.get(i);
                    int grew = w.grows(i);
                    t.girth += grew;
                    boolean closes = t.sort == 'o' ? (w.year & 1) == 1 && grew > 0 : grew > 2;
                    for (Cut c : w.cuts) {
                        c.depth -= closes && c.tree == i && c.depth != 0 ? 1 : 0;
                    }
                }
                w.year++;
            }
            return w;
        }

        static int places(Cut a, Cut b) {
            return Math.min(Math.floorMod(a.place - b.place, 60), Math.floorMod(b.place - a.place, 60));
        }

        boolean asOne(Cut a, Cut b) {
            if (a.tree != b.tree || a.depth == 0 || b.depth == 0) {
                return false;
            }
            return places(a, b) * trees.get(a.tree).girth / 60 <= wide;
        }

        /** All pairs that are together when but those with a bit are there. */
        boolean[][] together(int there) {
            int n = cuts.size();
            boolean[][] is = new boolean[n][n];
            for (int a = 0; a < n; a++) {
                for (int b = 0; b < n; b++) {
                    is[a][b] = (there >> a & there >> b & 1) == 1 && asOne(cuts.get(a), cuts.get(b));
                }
            }
            for (int by = 0; by < n; by++) {
                for (int a = 0; a < n; a++) {
                    for (int b = 0; b < n; b++) {
                        is[a][b] |= is[a][by] && is[by][b];
                    }
                }
            }
            return is;
        }

        int readable() {
            int bits = 0;
            for (int i = 0; i < cuts.size(); i++) {
                bits |= cuts.get(i).depth > 0 ? 1 << i : 0;
            }
            return bits;
        }
    }

    Wood wood;
    final Deque<Wood> acts = new ArrayDeque<>();
    final Wood[] images = new Wood[2];
    final StringBuilder tape = new StringBuilder();
    final List<Integer> trace = new ArrayList<>();
    int fault;

    boolean noTree(int tree) {
        return wood == null || tree < 0 || tree >= wood.trees.size();
    }

    boolean noCut(int cut) {
        return wood == null || cut < 0 || cut >= wood.cuts.size();
    }

    boolean noPair(int a, int b) {
        return noCut(a) || noCut(b) || a == b || wood.cuts.get(a).tree != wood.cuts.get(b).tree;
    }

    static boolean out(int n, int least, int most) {
        return n < least || n > most;
    }

    void act() {
        acts.push(wood.another());
        if (acts.size() > 24) {
            acts.removeLast();
        }
    }

    int feed(int letter) {
        if (out(letter, 0, 255)) {
            return BAD;
        }
        if (tape.length() == 140) {
            return FULL;
        }
        tape.append((char) letter);
        return tape.length();
    }

    /** The tokens of the tape are tried one by one against what may stand there. */
    int wood() {
        String text = tape.toString();
        tape.setLength(0);
        Matcher m = Pattern.compile("[0-9]+|(?s:.)").matcher(text);
        Wood read = new Wood();
        List<Integer> numbers = new ArrayList<>();
        String form = "w";
        char begun = 'w';
        while (m.find()) {
            String token = m.group();
            char c = token.charAt(0);
            boolean figures = c >= '0' && c <= '9';
            char due = form.charAt(0);
            boolean start = due == '*';
            boolean stands = start
                    ? c == 'c' || read.cuts.isEmpty() && "boypd".indexOf(c) >= 0
                    : due == '#' ? figures && token.length() < 3 : c == due;
            if (!stands) {
                return fails(m.start(), 1);
            }
            if (start && (c == 'c' ? read.cuts.size() == 8 : read.trees.size() == 4)) {
                return fails(m.start(), 3);
            }
            if (figures) {
                numbers.add(Integer.parseInt(token));
                if (!numberFits(read, begun, numbers)) {
                    return fails(m.start(), 2);
                }
            }
            if (start) {
                begun = c;
                numbers.clear();
                form = c == 'c' ? "#,#,#,#;" : "#,#;";
                continue;
            }
            form = due == 'w' ? "#;" : form.substring(1);
            if (form.isEmpty()) {
                close(read, begun, numbers);
                form = "*";
            }
        }
        if (!form.equals("*")) {
            return fails(text.length(), 1);
        }
        wood = read;
        acts.clear();
        return wood.cuts.size();
    }

    private static boolean numberFits(Wood read, char begun, List<Integer> numbers) {
        int at = numbers.size() - 1;
        int n = numbers.get(at);
        if (begun == 'w') {
            return !out(n, 2, 9);
        }
        if (begun != 'c') {
            return at == 0 ? !out(n, 10, 90) : !out(n, 0, 9);
        }
        switch (at) {
            case 0: return n < read.trees.size();
            case 1: return n <= 25;
            case 2: return n <= 59 && !read.taken(numbers.get(0), n);
            default: return !out(n, 1, 20);
        }
    }

    private static void close(Wood read, char begun, List<Integer> n) {
        if (begun == 'w') {
            read.wide = n.get(0);
        } else if (begun == 'c') {
            read.cut(n.get(0), n.get(1), n.get(2), n.get(3));
        } else {
            read.tree(begun, n.get(0), n.get(1));
        }
    }

    private int fails(int place, int number) {
        fault = number;
        return -1000100 - place;
    }

    int years(int n) {
        if (wood == null) {
            return STATE;
        }
        if (out(n, 1, 20)) {
            return BAD;
        }
        if (wood.year + n > 999) {
            return FULL;
        }
        for (int i = 0; i < n; i++) {
            act();
            wood = wood.after(1);
        }
        return Integer.bitCount(wood.readable());
    }

    int cut(int tree, int letter, int place, int depth) {
        if (noTree(tree) || out(letter, 0, 25) || out(place, 0, 59) || out(depth, 1, 20)) {
            return BAD;
        }
        if (wood.taken(tree, place)) {
            return STATE;
        }
        if (wood.cuts.size() == 8) {
            return FULL;
        }
        act();
        wood.cut(tree, letter, place, depth);
        return wood.cuts.size() - 1;
    }

    int anew(int cut, int depth) {
        if (noCut(cut) || out(depth, 1, 20)) {
            return BAD;
        }
        int had = wood.cuts.get(cut).depth;
        if (had == 0) {
            return STATE;
        }
        act();
        wood.cuts.get(cut).depth = depth;
        return had;
    }

    int scrape(int cut) {
        if (noCut(cut)) {
            return BAD;
        }
        act();
        wood.cuts.remove(cut);
        return wood.cuts.size();
    }

    int undo() {
        if (acts.isEmpty()) {
            return STATE;
        }
        wood = acts.pop();
        return acts.size();
    }

    int tree(int tree, int what) {
        if (noTree(tree) || out(what, 0, 3)) {
            return BAD;
        }
        int bits = 0;
        for (int i = 0; i < wood.cuts.size(); i++) {
            bits |= wood.cuts.get(i).tree == tree && wood.cuts.get(i).depth > 0 ? 1 << i : 0;
        }
        Tree t = wood.trees.get(tree);
        return new int[] {t.girth, t.sun, bits, wood.grows(tree)}[what];
    }

    int cutHas(int cut, int what) {
        if (noCut(cut) || out(what, 0, 3)) {
            return BAD;
        }
        Cut c = wood.cuts.get(cut);
        return new int[] {c.tree, c.letter, c.place, c.depth}[what];
    }

    int apart(int a, int b) {
        if (noCut(a) || noCut(b) || a == b) {
            return BAD;
        }
        Cut one = wood.cuts.get(a);
        Cut other = wood.cuts.get(b);
        if (one.tree != other.tree || one.depth * other.depth == 0) {
            return NONE;
        }
        return Wood.places(one, other) * wood.trees.get(one.tree).girth / 60;
    }

    int together(int a, int b) {
        return noPair(a, b) ? BAD : wood.together(255)[a][b] ? 1 : 0;
    }

    int girth(int tree, int d) {
        return noTree(tree) || out(d, 0, 50) ? BAD : wood.after(d).trees.get(tree).girth;
    }

    int left(int d) {
        return wood == null ? STATE : out(d, 0, 50) ? BAD : wood.after(d).readable();
    }

    int free(int a, int b) {
        if (noPair(a, b)) {
            return BAD;
        }
        for (int d = 0; d <= 50; d++) {
            if (!wood.after(d).together(255)[a][b]) {
                return d;
            }
        }
        return NONE;
    }

    int holds(int p, int depth, int d) {
        if (wood == null) {
            return STATE;
        }
        if (out(p, 1, 30) || out(depth, 1, 20) || out(d, 0, 50)) {
            return BAD;
        }
        int bits = 0;
        for (int tree = 0; tree < wood.trees.size(); tree++) {
            Wood alone = wood.another();
            alone.cuts.clear();
            alone.cut(tree, 0, 0, depth);
            alone.cut(tree, 0, p, depth);
            boolean all = true;
            for (int y = 0; y <= d; y++) {
                Wood then = alone.after(y);
                all &= then.asOne(then.cuts.get(0), then.cuts.get(1));
            }
            bits |= all ? 1 << tree : 0;
        }
        return bits;
    }

    int deep(int tree, int d) {
        if (noTree(tree) || out(d, 0, 50)) {
            return BAD;
        }
        for (int depth = 1; depth <= 20; depth++) {
            Wood w = wood.another();
            w.cut(tree, 0, 0, depth);
            if (w.after(d).cuts.get(w.cuts.size() - 1).depth > 0) {
                return depth;
            }
        }
        return NONE;
    }

    int meet(int tree, int what) {
        if (noTree(tree) || out(what, 0, 1)) {
            return BAD;
        }
        List<Integer> pairs = new ArrayList<>();
        for (int code = 0; code < 80; code++) {
            int a = code / 10;
            int b = code % 10;
            if (a < b && !noPair(a, b) && wood.cuts.get(a).tree == tree && apart(a, b) != NONE
                    && Wood.places(wood.cuts.get(a), wood.cuts.get(b)) > 28) {
                pairs.add(code);
            }
        }
        return what == 0 ? pairs.size() : pairs.isEmpty() ? NONE : pairs.get(0);
    }

    int rings(int tree, int what) {
        if (noTree(tree) || out(what, 0, 1)) {
            return BAD;
        }
        boolean[][] is = wood.together(255);
        TreeSet<Integer> rings = new TreeSet<>();
        int most = 0;
        for (int a = 0; a < wood.cuts.size(); a++) {
            if (wood.cuts.get(a).tree == tree && wood.cuts.get(a).depth > 0) {
                int ring = 0;
                for (int b = 0; b < wood.cuts.size(); b++) {
                    ring |= is[a][b] || a == b ? 1 << b : 0;
                }
                rings.add(ring);
                most = Math.max(most, Integer.bitCount(ring));
            }
        }
        return what == 0 ? rings.size() : most;
    }

    int gaps(int cut, int[] told) {
        int bits = 0;
        for (int depth = 1; depth <= 20; depth++) {
            Wood w = wood.another();
            w.cuts.get(cut).depth = depth;
            int[] goes = new int[told.length];
            for (int k = 0; k < told.length; k++) {
                goes[k] = w.after(k + 1).cuts.get(cut).depth;
            }
            bits |= Arrays.equals(goes, told) ? 1 << depth : 0;
        }
        return bits;
    }

    int which(int tree, int[] told, boolean suns) {
        int bits = 0;
        for (int by = suns ? 0 : 1; by <= (suns ? 9 : 5); by++) {
            Wood w = wood.another();
            if (suns) {
                w.trees.get(tree).sun = by;
            } else {
                w.trees.get(tree).sort = " boypd".charAt(by);
            }
            int[] goes = new int[told.length];
            for (int k = 0; k < told.length; k++) {
                goes[k] = w.after(k + 1).trees.get(tree).girth;
            }
            bits |= Arrays.equals(goes, told) ? 1 << by : 0;
        }
        return bits;
    }

    int storm(int a, int b, int c, int what) {
        if (noPair(a, b) || out(c, 0, 10) || out(what, 0, 1)) {
            return BAD;
        }
        int here = tree(wood.cuts.get(a).tree, 2);
        BigInteger[] sum = {BigInteger.ZERO};
        storms(a, b, c, here, 0, BigInteger.ONE, sum);
        BigInteger below = BigInteger.TEN.pow(Integer.bitCount(here));
        BigInteger by = sum[0].gcd(below);
        return (what == 0 ? sum[0] : below).divide(by).intValueExact();
    }

    private void storms(int a, int b, int c, int here, int cut, BigInteger ways, BigInteger[] sum) {
        if (cut == 8) {
            if (wood.together(here)[a][b]) {
                sum[0] = sum[0].add(ways);
            }
        } else if ((here >> cut & 1) == 0) {
            storms(a, b, c, here, cut + 1, ways, sum);
        } else {
            storms(a, b, c, here, cut + 1, ways.multiply(BigInteger.valueOf(10 - c)), sum);
            storms(a, b, c, here & ~(1 << cut), cut + 1, ways.multiply(BigInteger.valueOf(c)), sum);
        }
    }

    int image(int k) {
        if (out(k, 0, 1)) {
            return BAD;
        }
        if (wood == null) {
            return STATE;
        }
        images[k] = wood.another();
        return 1;
    }

    int restore(int k) {
        if (out(k, 0, 1)) {
            return BAD;
        }
        if (images[k] == null) {
            return STATE;
        }
        wood = images[k].another();
        acts.clear();
        return 1;
    }

    /** Asks by Java's own classes, each of which takes the body that is told for it. */
    private class Asked {
        final Tree t;
        final int number;

        Asked(int number) {
            this.number = number;
            t = wood.trees.get(number);
        }

        int size() {
            trace.add(10);
            return t.sun;
        }

        int mark() {
            trace.add(20);
            return number;
        }
    }

    private class Beech extends Asked {
        Beech(int number) {
            super(number);
        }

        @Override
        int size() {
            trace.add(11);
            return super.size() + mark();
        }

        @Override
        int mark() {
            trace.add(21);
            return super.mark() + t.girth;
        }
    }

    private final class Oak extends Beech {
        Oak(int number) {
            super(number);
        }

        @Override
        int size() {
            trace.add(12);
            return 0 - super.size();
        }

        @Override
        int mark() {
            trace.add(24);
            return 2 * super.mark();
        }
    }

    private final class Birch extends Beech {
        Birch(int number) {
            super(number);
        }

        @Override
        int mark() {
            trace.add(22);
            return super.mark() - 1000;
        }
    }

    private class Pine extends Asked {
        Pine(int number) {
            super(number);
        }

        @Override
        int size() {
            trace.add(13);
            return super.size() - 100;
        }

        @Override
        int mark() {
            trace.add(23);
            return super.mark() - size();
        }
    }

    private final class Dead extends Pine {
        Dead(int number) {
            super(number);
        }

        @Override
        int size() {
            trace.add(14);
            return 2 * super.size();
        }
    }

    private Asked asked(int tree) {
        switch (wood.trees.get(tree).sort) {
            case 'b': return new Beech(tree);
            case 'o': return new Oak(tree);
            case 'y': return new Birch(tree);
            case 'p': return new Pine(tree);
            default: return new Dead(tree);
        }
    }

    int kind(int tree) {
        return noTree(tree) ? BAD : " boypd".indexOf(wood.trees.get(tree).sort);
    }

    int as(int tree, int kind) {
        if (noTree(tree) || out(kind, 0, 5)) {
            return BAD;
        }
        Class<?>[] kinds = {Asked.class, Beech.class, Oak.class, Birch.class, Pine.class, Dead.class};
        return kinds[kind].isInstance(asked(tree)) ? tree : -1000013;
    }

    int ask(int tree, int what) {
        if (noTree(tree) || out(what, 0, 1)) {
            return BAD;
        }
        trace.clear();
        return what == 0 ? asked(tree).size() : asked(tree).mark();
    }

    int trace(int i) {
        return out(i, 0, trace.size() - 1) ? NONE : trace.get(i);
    }

    int count(int what) {
        Wood w = wood == null ? new Wood() : wood;
        switch (what) {
            case 1: return w.trees.size();
            case 2: return w.cuts.size();
            case 3: return Integer.bitCount(w.readable());
            case 4: return w.year;
            case 5: return w.wide;
            case 6: return acts.size();
            case 7: return tape.length();
            default: return BAD;
        }
    }
}
