import java.util.Arrays;

/**
 * Letters cut in the bark of growing trees: when they can be read, and read as one.
 * ../shared/DOC.md tells what each call answers; its words in capitals are meant here, too.
 */
public final class BarkNames {
    public static final int NONE = -1000000, BAD = -1000001, STATE = -1000002, FULL = -1000003;

    private static final int FOUND = -1000010, FAULTY = -1000100;
    private static final int NULL = 1, PLACE = 2, KIND = 3, SIZE = 4, STORE = 5;

    private static final int ROWS = 8, MOST_ITEMS = 40, BYTES = 0, SHORTS = 1, INTS = 2;
    private static final int MOST_BYTES = 140, MOST_TREES = 4, MOST_CUTS = 8, ALL_CUTS = 255;
    private static final int MOST_ACTS = 24, IMAGES = 2, MOST_TRACED = 16;

    private static final int LETTERS = 26, PLACES = 60, DEEPEST = 20, MOST_SUN = 9;
    private static final int THICKEST = 999, LAST_YEAR = 999, MOST_YEARS = 20;
    private static final int MOST_FORETOLD = 50, MOST_TOLD = 16;

    private static final int BEECH = 1, OAK = 2, BIRCH = 3, PINE = 4, DEAD = 5;
    /** The KIND that each KIND is, too; -1: none. */
    private static final int[] IS_TOO = {-1, 0, BEECH, BEECH, 0, PINE};

    private final Row[] rows = new Row[ROWS];
    private final Tape tape = new Tape();
    private final Wood now = new Wood();
    /** The wood in which calls try what is not so now; of no use from one call to the next. */
    private final Wood tried = new Wood();
    private final Wood[] images = new Wood[IMAGES];
    private final Past past = new Past();
    private final Reading reading = new Reading();
    private final Asks asks = new Asks();
    private int latestFault;
    private int latestFinding;

    public BarkNames() {
        for (int i = 0; i < rows.length; i++) {
            rows[i] = new Row();
        }
        for (int i = 0; i < images.length; i++) {
            images[i] = new Wood();
        }
    }

    // ---- rows

    public int row(int row, int lane, int n) {
        if (!isRow(row) || lane < BYTES || lane > INTS || n > MOST_ITEMS) {
            return BAD;
        }
        if (n < 0) {
            return found(SIZE);
        }
        rows[row].begin(lane, n);
        return foundNothing(n);
    }

    public int set(int row, int i, int v) {
        if (!isRow(row)) {
            return BAD;
        }
        int finding = findingIn(rows[row], i, 1);
        if (finding != 0) {
            return found(finding);
        }
        rows[row].items[i] = rows[row].narrowed(v);
        return foundNothing(rows[row].items[i]);
    }

    public int copy(int a, int i, int b, int j, int n) {
        if (!isRow(a) || !isRow(b)) {
            return BAD;
        }
        Row from = rows[a];
        Row to = rows[b];
        if (!from.there || !to.there) {
            return found(NULL);
        }
        if (from.lane != to.lane) {
            return found(STORE);
        }
        if (!from.spans(i, n) || !to.spans(j, n)) {
            return found(PLACE);
        }
        System.arraycopy(from.items, i, to.items, j, n);
        return foundNothing(n);
    }

    public int drop(int row) {
        if (!isRow(row)) {
            return BAD;
        }
        if (!rows[row].there) {
            return found(NULL);
        }
        rows[row].there = false;
        return foundNothing(rows[row].size);
    }

    // ---- woods, acts

    public int feed(int letter) {
        if (letter < 0 || letter > 255) {
            return BAD;
        }
        return tape.takes(letter) ? tape.length : FULL;
    }

    public int wood() {
        boolean told = tape.tells(tried);
        tape.length = 0;
        if (!told) {
            latestFault = tape.fault;
            return FAULTY - tape.faultPlace;
        }
        now.become(tried);
        past.forget();
        return now.cutCount;
    }

    public int fault() {
        return latestFault;
    }

    public int years(int n) {
        if (!now.told) {
            return STATE;
        }
        if (n < 1 || n > MOST_YEARS) {
            return BAD;
        }
        if (now.year + n > LAST_YEAR) {
            return FULL;
        }
        for (int i = 0; i < n; i++) {
            past.keep(now);
            now.passYear();
        }
        return Integer.bitCount(now.readable());
    }

    public int cut(int tree, int letter, int place, int depth) {
        if (!now.hasTree(tree) || !isBelow(letter, LETTERS) || !isBelow(place, PLACES) || !isDepth(depth)) {
            return BAD;
        }
        if (now.hasCutAt(tree, place)) {
            return STATE;
        }
        if (now.cutCount >= MOST_CUTS) {
            return FULL;
        }
        past.keep(now);
        now.addCut(tree, letter, place, depth);
        return now.cutCount - 1;
    }

    public int anew(int cut, int depth) {
        if (!now.hasCut(cut) || !isDepth(depth)) {
            return BAD;
        }
        int had = now.depthOf[cut];
        if (had == 0) {
            return STATE;
        }
        past.keep(now);
        now.depthOf[cut] = depth;
        return had;
    }

    public int scrape(int cut) {
        if (!now.hasCut(cut)) {
            return BAD;
        }
        past.keep(now);
        now.removeCut(cut);
        return now.cutCount;
    }

    public int undo() {
        if (past.kept == 0) {
            return STATE;
        }
        past.bringBack(now);
        return past.kept;
    }

    public int tree(int tree, int what) {
        if (!now.hasTree(tree)) {
            return BAD;
        }
        switch (what) {
            case 0: return now.girthOf[tree];
            case 1: return now.sunOf[tree];
            case 2: return now.readableOn(tree);
            case 3: return now.growth(tree);
            default: return BAD;
        }
    }

    public int cutHas(int cut, int what) {
        if (!now.hasCut(cut)) {
            return BAD;
        }
        switch (what) {
            case 0: return now.treeOf[cut];
            case 1: return now.letterOf[cut];
            case 2: return now.placeOf[cut];
            case 3: return now.depthOf[cut];
            default: return BAD;
        }
    }

    public int apart(int a, int b) {
        if (!now.hasCut(a) || !now.hasCut(b) || a == b) {
            return BAD;
        }
        return now.bothReadable(a, b) ? now.distance(a, b) : NONE;
    }

    public int together(int a, int b) {
        if (!isPair(a, b)) {
            return BAD;
        }
        return areTogether(now, a, b) ? 1 : 0;
    }

    // ---- foretold

    public int girth(int tree, int d) {
        if (!now.hasTree(tree) || !isForetold(d)) {
            return BAD;
        }
        foretell(d);
        return tried.girthOf[tree];
    }

    public int left(int d) {
        if (!now.told) {
            return STATE;
        }
        if (!isForetold(d)) {
            return BAD;
        }
        foretell(d);
        return tried.readable();
    }

    public int free(int a, int b) {
        if (!isPair(a, b)) {
            return BAD;
        }
        tried.become(now);
        for (int d = 0; d <= MOST_FORETOLD; d++) {
            if (!areTogether(tried, a, b)) {
                return d;
            }
            tried.passYear();
        }
        return NONE;
    }

    public int holds(int p, int depth, int d) {
        if (!now.told) {
            return STATE;
        }
        if (p < 1 || p > PLACES / 2 || !isDepth(depth) || !isForetold(d)) {
            return BAD;
        }
        tried.become(now);
        tried.cutCount = 0;
        for (int tree = 0; tree < tried.treeCount; tree++) {
            tried.addCut(tree, 0, 0, depth);
            tried.addCut(tree, 0, p, depth);
        }
        int trees = treesOfPairsReadAsOne();
        for (int year = 1; year <= d; year++) {
            tried.passYear();
            trees &= treesOfPairsReadAsOne();
        }
        return trees;
    }

    public int deep(int tree, int d) {
        if (!now.hasTree(tree) || !isForetold(d)) {
            return BAD;
        }
        tried.become(now);
        tried.cutCount = 0;
        tried.addCut(tree, 0, 0, DEEPEST);
        tried.passYears(d);
        int still = tried.depthOf[0];
        // each YEAR takes 1 DEPTH at most, so what was lost, and 1 more, is enough
        return still == 0 ? NONE : DEEPEST - still + 1;
    }

    public int meet(int tree, int what) {
        if (!now.hasTree(tree) || !isChoice(what)) {
            return BAD;
        }
        int pairs = 0;
        int first = NONE;
        for (int a = 0; a < now.cutCount; a++) {
            for (int b = a + 1; b < now.cutCount; b++) {
                if (now.treeOf[a] == tree && now.meetBehind(a, b)) {
                    first = pairs == 0 ? 10 * a + b : first;
                    pairs++;
                }
            }
        }
        return what == 0 ? pairs : first;
    }

    public int rings(int tree, int what) {
        if (!now.hasTree(tree) || !isChoice(what)) {
            return BAD;
        }
        reading.lookAt(now);
        int rest = now.readableOn(tree);
        int rings = 0;
        int most = 0;
        for (int cut = 0; cut < now.cutCount; cut++) {
            if (isIn(rest, cut)) {
                int ring = reading.reached(cut, rest);
                rest &= ~ring;
                rings++;
                most = Math.max(most, Integer.bitCount(ring));
            }
        }
        return what == 0 ? rings : most;
    }

    public int gaps(int cut, int row, int i, int n) {
        if (!now.hasCut(cut) || !isRow(row) || !isTold(n)) {
            return BAD;
        }
        int finding = findingIn(rows[row], i, n);
        if (finding != 0) {
            return found(finding);
        }
        int depths = 0;
        for (int depth = 1; depth <= DEEPEST; depth++) {
            tried.become(now);
            tried.depthOf[cut] = depth;
            if (goesSo(tried.depthOf, cut, rows[row], i, n)) {
                depths |= 1 << depth;
            }
        }
        return foundNothing(depths);
    }

    public int which(int tree, int row, int i, int n, int suns) {
        if (!now.hasTree(tree) || !isRow(row) || !isTold(n) || !isChoice(suns)) {
            return BAD;
        }
        int finding = findingIn(rows[row], i, n);
        if (finding != 0) {
            return found(finding);
        }
        return foundNothing(suns == 0 ? kindsThatGoSo(tree, rows[row], i, n) : sunsThatGoSo(tree, rows[row], i, n));
    }

    public int storm(int a, int b, int c, int what) {
        if (!isPair(a, b) || c < 0 || c > 10 || !isChoice(what)) {
            return BAD;
        }
        int above = stormWays(a, b, c);
        int below = power(10, Integer.bitCount(now.readableOn(now.treeOf[a])));
        int divisor = greatestDivisor(above, below);
        return (what == 0 ? above : below) / divisor;
    }

    public int image(int k) {
        if (!isBelow(k, IMAGES)) {
            return BAD;
        }
        if (!now.told) {
            return STATE;
        }
        images[k].become(now);
        return 1;
    }

    public int restore(int k) {
        if (!isBelow(k, IMAGES)) {
            return BAD;
        }
        if (!images[k].told) {
            return STATE;
        }
        now.become(images[k]);
        past.forget();
        return 1;
    }

    // ---- asked

    public int kind(int tree) {
        return now.hasTree(tree) ? now.kindOf[tree] : BAD;
    }

    public int as(int tree, int kind) {
        if (!now.hasTree(tree) || !isBelow(kind, IS_TOO.length)) {
            return BAD;
        }
        return isOfKind(now.kindOf[tree], kind) ? foundNothing(tree) : found(KIND);
    }

    public int ask(int tree, int what) {
        if (!now.hasTree(tree) || !isChoice(what)) {
            return BAD;
        }
        asks.traced = 0;
        return what == 0 ? asks.sizeOf(now, tree) : asks.markOf(now, tree);
    }

    public int trace(int i) {
        return isBelow(i, asks.traced) ? asks.numbers[i] : NONE;
    }

    public int count(int what) {
        switch (what) {
            case 0: return rowsThere();
            case 1: return now.treeCount;
            case 2: return now.cutCount;
            case 3: return Integer.bitCount(now.readable());
            case 4: return now.year;
            case 5: return now.wide;
            case 6: return past.kept;
            case 7: return tape.length;
            default: return BAD;
        }
    }

    public int status() {
        return latestFinding;
    }

    // ---- what numbers may be

    private static boolean isBelow(int number, int bound) {
        return number >= 0 && number < bound;
    }

    private static boolean isRow(int row) {
        return isBelow(row, ROWS);
    }

    private static boolean isDepth(int depth) {
        return depth >= 1 && depth <= DEEPEST;
    }

    private static boolean isForetold(int d) {
        return isBelow(d, MOST_FORETOLD + 1);
    }

    private static boolean isTold(int n) {
        return n >= 1 && n <= MOST_TOLD;
    }

    private static boolean isChoice(int what) {
        return isBelow(what, 2);
    }

    private static boolean isIn(int bits, int number) {
        return (bits >> number & 1) != 0;
    }

    /** Whether a and b are two CUTS of one TREE. */
    private boolean isPair(int a, int b) {
        return now.hasCut(a) && now.hasCut(b) && a != b && now.treeOf[a] == now.treeOf[b];
    }

    private static boolean isOfKind(int kind, int asked) {
        int is = kind;
        for (int up = 0; up < IS_TOO.length && is >= 0; up++) {
            if (is == asked) {
                return true;
            }
            is = IS_TOO[is];
        }
        return false;
    }

    // ---- findings

    private int found(int finding) {
        latestFinding = finding;
        return FOUND - finding;
    }

    private int foundNothing(int answer) {
        latestFinding = 0;
        return answer;
    }

    /** What is found where n ITEMS of a ROW from i on are used; 0: nothing. */
    private static int findingIn(Row row, int i, int n) {
        if (!row.there) {
            return NULL;
        }
        return row.spans(i, n) ? 0 : PLACE;
    }

    private int rowsThere() {
        int there = 0;
        for (int i = 0; i < rows.length; i++) {
            there += rows[i].there ? 1 : 0;
        }
        return there;
    }

    // ---- what is foretold

    private void foretell(int d) {
        tried.become(now);
        tried.passYears(d);
    }

    private boolean areTogether(Wood wood, int a, int b) {
        reading.lookAt(wood);
        return isIn(reading.reached(a, ALL_CUTS), b);
    }

    /** The TREES whose two CUTS, 2 and 2 by TREE, can be read as one. */
    private int treesOfPairsReadAsOne() {
        int trees = 0;
        for (int tree = 0; tree < tried.treeCount; tree++) {
            if (tried.readAsOne(2 * tree, 2 * tree + 1)) {
                trees |= 1 << tree;
            }
        }
        return trees;
    }

    /** Whether number k of what is tried goes as a ROW tells it from i on, behind each of n YEARS. */
    private boolean goesSo(int[] tells, int k, Row row, int i, int n) {
        for (int year = 0; year < n; year++) {
            tried.passYear();
            if (tells[k] != row.items[i + year]) {
                return false;
            }
        }
        return true;
    }

    private int kindsThatGoSo(int tree, Row row, int i, int n) {
        int kinds = 0;
        for (int kind = BEECH; kind <= DEAD; kind++) {
            tried.become(now);
            tried.kindOf[tree] = kind;
            if (goesSo(tried.girthOf, tree, row, i, n)) {
                kinds |= 1 << kind;
            }
        }
        return kinds;
    }

    private int sunsThatGoSo(int tree, Row row, int i, int n) {
        int suns = 0;
        for (int sun = 0; sun <= MOST_SUN; sun++) {
            tried.become(now);
            tried.sunOf[tree] = sun;
            if (goesSo(tried.girthOf, tree, row, i, n)) {
                suns |= 1 << sun;
            }
        }
        return suns;
    }

    /** Of 10 to the power of the TREE's CUTS that can be read: in how many ways a and b are TOGETHER still. */
    private int stormWays(int a, int b, int c) {
        reading.lookAt(now);
        int standing = now.readableOn(now.treeOf[a]);
        int ways = 0;
        for (int stays = 0; stays <= standing; stays++) {
            boolean possible = (stays & ~standing) == 0 && isIn(stays, a) && isIn(stays, b);
            if (possible && isIn(reading.reached(a, stays), b)) {
                ways += power(10 - c, Integer.bitCount(stays)) * power(c, Integer.bitCount(standing & ~stays));
            }
        }
        return ways;
    }

    private static int power(int base, int exponent) {
        int power = 1;
        for (int i = 0; i < exponent; i++) {
            power *= base;
        }
        return power;
    }

    /** The greatest number that divides both; at least 1. */
    private static int greatestDivisor(int a, int b) {
        int greater = Math.max(a, b);
        int less = Math.min(a, b);
        for (int step = 0; step < 64 && less > 0; step++) {
            int rest = greater % less;
            greater = less;
            less = rest;
        }
        return Math.max(greater, 1);
    }

    /** One ROW, missing or there; its ITEMS are ints that never go beyond its LANE. */
    private static final class Row {
        final int[] items = new int[MOST_ITEMS];
        boolean there;
        int lane;
        int size;

        void begin(int itsLane, int itsSize) {
            there = true;
            lane = itsLane;
            size = itsSize;
            Arrays.fill(items, 0);
        }

        int narrowed(int v) {
            switch (lane) {
                case BYTES: return (byte) v;
                case SHORTS: return (short) v;
                default: return v;
            }
        }

        boolean spans(int i, int n) {
            // n is looked at first: size - n could wrap round else
            return n >= 0 && i >= 0 && i <= size - n;
        }
    }

    /** THE TAPE, and how a WOOD is read from it, token by token. */
    private static final class Tape {
        final int[] bytes = new int[MOST_BYTES];
        int length;
        int fault;
        int faultPlace;
        private int at;

        boolean takes(int letter) {
            if (length >= bytes.length) {
                return false;
            }
            bytes[length] = letter;
            length++;
            return true;
        }

        /** Whether a WOOD is told: it is in wood then, else the FAULT is in fault and faultPlace. */
        boolean tells(Wood wood) {
            at = 0;
            if (!readsLaw(wood)) {
                return false;
            }
            // one more than there is room for is tried, for its FAULT
            for (int i = 0; i <= MOST_TREES && kindHere() != 0; i++) {
                if (!readsTree(wood)) {
                    return false;
                }
            }
            for (int i = 0; i <= MOST_CUTS && here() == 'c'; i++) {
                if (!readsCut(wood)) {
                    return false;
                }
            }
            return at == length || fails(1, at);
        }

        private boolean readsLaw(Wood wood) {
            if (!reads('w')) {
                return false;
            }
            int wide = numberRead(2, 9);
            if (wide < 0 || !reads(';')) {
                return false;
            }
            wood.begin(wide);
            return true;
        }

        private boolean readsTree(Wood wood) {
            if (wood.treeCount >= MOST_TREES) {
                return fails(3, at);
            }
            int kind = kindHere();
            at++;
            int girth = numberRead(10, 90);
            if (girth < 0 || !reads(',')) {
                return false;
            }
            int sun = numberRead(0, MOST_SUN);
            if (sun < 0 || !reads(';')) {
                return false;
            }
            wood.addTree(kind, girth, sun);
            return true;
        }

        private boolean readsCut(Wood wood) {
            if (wood.cutCount >= MOST_CUTS) {
                return fails(3, at);
            }
            at++;
            int tree = numberRead(0, wood.treeCount - 1);
            if (tree < 0 || !reads(',')) {
                return false;
            }
            int letter = numberRead(0, LETTERS - 1);
            if (letter < 0 || !reads(',')) {
                return false;
            }
            int placeStart = at;
            int place = numberRead(0, PLACES - 1);
            if (place < 0) {
                return false;
            }
            if (wood.hasCutAt(tree, place)) {
                return fails(2, placeStart);
            }
            if (!reads(',')) {
                return false;
            }
            int depth = numberRead(1, DEEPEST);
            if (depth < 0 || !reads(';')) {
                return false;
            }
            wood.addCut(tree, letter, place, depth);
            return true;
        }

        /** The NUMBER that stands here, from least to most; -1: it fails. */
        private int numberRead(int least, int most) {
            int start = at;
            int number = 0;
            int end = at;
            while (end < length && isFigure(bytes[end])) {
                // only the first two count: a longer run is no NUMBER
                number = end - start < 2 ? 10 * number + bytes[end] - '0' : number;
                end++;
            }
            if (end == start || end - start > 2) {
                fails(1, start);
                return -1;
            }
            if (number < least || number > most) {
                fails(2, start);
                return -1;
            }
            at = end;
            return number;
        }

        private static boolean isFigure(int letter) {
            return letter >= '0' && letter <= '9';
        }

        private boolean reads(int letter) {
            if (here() != letter) {
                return fails(1, at);
            }
            at++;
            return true;
        }

        /** The byte that is to be read next; -1: the end. */
        private int here() {
            return at < length ? bytes[at] : -1;
        }

        /** The KIND whose SORT is to be read next; 0: none. */
        private int kindHere() {
            switch (here()) {
                case 'b': return BEECH;
                case 'o': return OAK;
                case 'y': return BIRCH;
                case 'p': return PINE;
                case 'd': return DEAD;
                default: return 0;
            }
        }

        private boolean fails(int number, int place) {
            fault = number;
            faultPlace = place;
            return false;
        }
    }

    /** TREES and the CUTS in them, as they are in one YEAR. */
    private static final class Wood {
        final int[] kindOf = new int[MOST_TREES];
        final int[] girthOf = new int[MOST_TREES];
        final int[] sunOf = new int[MOST_TREES];
        final int[] treeOf = new int[MOST_CUTS];
        final int[] letterOf = new int[MOST_CUTS];
        final int[] placeOf = new int[MOST_CUTS];
        final int[] depthOf = new int[MOST_CUTS];
        boolean told;
        int wide;
        int year;
        int treeCount;
        int cutCount;

        void begin(int itsWide) {
            told = true;
            wide = itsWide;
            year = 0;
            treeCount = 0;
            cutCount = 0;
        }

        void become(Wood other) {
            told = other.told;
            wide = other.wide;
            year = other.year;
            treeCount = other.treeCount;
            cutCount = other.cutCount;
            System.arraycopy(other.kindOf, 0, kindOf, 0, MOST_TREES);
            System.arraycopy(other.girthOf, 0, girthOf, 0, MOST_TREES);
            System.arraycopy(other.sunOf, 0, sunOf, 0, MOST_TREES);
            System.arraycopy(other.treeOf, 0, treeOf, 0, MOST_CUTS);
            System.arraycopy(other.letterOf, 0, letterOf, 0, MOST_CUTS);
            System.arraycopy(other.placeOf, 0, placeOf, 0, MOST_CUTS);
            System.arraycopy(other.depthOf, 0, depthOf, 0, MOST_CUTS);
        }

        void addTree(int kind, int girth, int sun) {
            if (treeCount < MOST_TREES) {
                kindOf[treeCount] = kind;
                girthOf[treeCount] = girth;
                sunOf[treeCount] = sun;
                treeCount++;
            }
        }

        void addCut(int tree, int letter, int place, int depth) {
            if (cutCount < MOST_CUTS) {
                treeOf[cutCount] = tree;
                letterOf[cutCount] = letter;
                placeOf[cutCount] = place;
                depthOf[cutCount] = depth;
                cutCount++;
            }
        }

        void removeCut(int cut) {
            for (int i = cut; i < cutCount - 1; i++) {
                treeOf[i] = treeOf[i + 1];
                letterOf[i] = letterOf[i + 1];
                placeOf[i] = placeOf[i + 1];
                depthOf[i] = depthOf[i + 1];
            }
            cutCount--;
        }

        boolean hasTree(int tree) {
            return isBelow(tree, treeCount);
        }

        boolean hasCut(int cut) {
            return isBelow(cut, cutCount);
        }

        boolean hasCutAt(int tree, int place) {
            for (int cut = 0; cut < cutCount; cut++) {
                if (treeOf[cut] == tree && placeOf[cut] == place) {
                    return true;
                }
            }
            return false;
        }

        /** By how much a TREE will GROW this YEAR, as its GIRTH will. */
        int growth(int tree) {
            return Math.min(growthByKind(tree), THICKEST - girthOf[tree]);
        }

        private int growthByKind(int tree) {
            int sun = sunOf[tree];
            int asBeech = 1 + sun / 3;
            switch (kindOf[tree]) {
                case BEECH: return asBeech;
                case OAK: return asBeech / 2;
                case BIRCH: return year % 2 == 0 ? asBeech + 2 : asBeech;
                case PINE: return sun;
                default: return 0;
            }
        }

        /** Whether CUTS of a TREE that GREW so this YEAR lose DEPTH. */
        private boolean closesBy(int grew, int kind) {
            return kind == OAK ? grew >= 1 && year % 2 == 1 : grew >= 3;
        }

        void passYear() {
            for (int tree = 0; tree < treeCount; tree++) {
                int grew = growth(tree);
                girthOf[tree] += grew;
                if (closesBy(grew, kindOf[tree])) {
                    closeCutsOf(tree);
                }
            }
            year++;
        }

        private void closeCutsOf(int tree) {
            for (int cut = 0; cut < cutCount; cut++) {
                if (treeOf[cut] == tree && depthOf[cut] > 0) {
                    depthOf[cut]--;
                }
            }
        }

        void passYears(int n) {
            for (int i = 0; i < n; i++) {
                passYear();
            }
        }

        /** The CUTS that are not HEALED. */
        int readable() {
            int cuts = 0;
            for (int cut = 0; cut < cutCount; cut++) {
                cuts |= depthOf[cut] > 0 ? 1 << cut : 0;
            }
            return cuts;
        }

        int readableOn(int tree) {
            int cuts = readable();
            for (int cut = 0; cut < cutCount; cut++) {
                cuts &= treeOf[cut] == tree ? ALL_CUTS : ~(1 << cut);
            }
            return cuts;
        }

        /** Whether two CUTS are of one TREE, and none of them is HEALED. */
        boolean bothReadable(int a, int b) {
            return treeOf[a] == treeOf[b] && depthOf[a] > 0 && depthOf[b] > 0;
        }

        private int placesApart(int a, int b) {
            int oneWay = Math.abs(placeOf[a] - placeOf[b]);
            return Math.min(oneWay, PLACES - oneWay);
        }

        int distance(int a, int b) {
            return placesApart(a, b) * girthOf[treeOf[a]] / PLACES;
        }

        boolean readAsOne(int a, int b) {
            return bothReadable(a, b) && distance(a, b) <= wide;
        }

        boolean meetBehind(int a, int b) {
            return bothReadable(a, b) && placesApart(a, b) >= PLACES / 2 - 1;
        }
    }

    /** The WOODS as they were ahead of the latest ACTS. */
    private static final class Past {
        private final Wood[] woods = new Wood[MOST_ACTS];
        private int next;
        int kept;

        Past() {
            for (int i = 0; i < woods.length; i++) {
                woods[i] = new Wood();
            }
        }

        void keep(Wood wood) {
            woods[next].become(wood);
            next = (next + 1) % MOST_ACTS;
            kept = Math.min(kept + 1, MOST_ACTS);
        }

        void bringBack(Wood wood) {
            if (kept > 0) {
                kept--;
                next = (next + MOST_ACTS - 1) % MOST_ACTS;
                wood.become(woods[next]);
            }
        }

        void forget() {
            kept = 0;
        }
    }

    /** Which CUTS can be read as one in a WOOD, as it was when it was looked at. */
    private static final class Reading {
        private final int[] asOneWith = new int[MOST_CUTS];

        void lookAt(Wood wood) {
            Arrays.fill(asOneWith, 0);
            for (int a = 0; a < wood.cutCount; a++) {
                for (int b = 0; b < wood.cutCount; b++) {
                    if (a != b && wood.readAsOne(a, b)) {
                        asOneWith[a] |= 1 << b;
                    }
                }
            }
        }

        /** The CUTS that are TOGETHER with one, if but those among are there; itself, too. */
        int reached(int from, int among) {
            int reached = 1 << from;
            int latest = reached;
            for (int step = 0; step < MOST_CUTS && latest != 0; step++) {
                latest = nextTo(latest) & among & ~reached;
                reached |= latest;
            }
            return reached;
        }

        private int nextTo(int cuts) {
            int next = 0;
            for (int cut = 0; cut < MOST_CUTS; cut++) {
                next |= isIn(cuts, cut) ? asOneWith[cut] : 0;
            }
            return next;
        }
    }

    /**
     * ASKS and THE TRACE. Bodies that begin one within the other are noted in one method,
     * the outermost first: so no method calls itself by way of the other ask.
     */
    private static final class Asks {
        final int[] numbers = new int[MOST_TRACED];
        int traced;

        int sizeOf(Wood wood, int tree) {
            if (isOfKind(wood.kindOf[tree], BEECH)) {
                return sizeOfBeech(wood, tree);
            }
            return sizeOfPine(wood, tree);
        }

        int markOf(Wood wood, int tree) {
            if (isOfKind(wood.kindOf[tree], BEECH)) {
                return markOfBeech(wood, tree);
            }
            note(23);
            note(20);
            return tree - sizeOfPine(wood, tree);
        }

        private int sizeOfBeech(Wood wood, int tree) {
            boolean oak = wood.kindOf[tree] == OAK;
            if (oak) {
                note(12);
            }
            note(11);
            note(10);
            int size = wood.sunOf[tree] + markOfBeech(wood, tree);
            return oak ? -size : size;
        }

        private int sizeOfPine(Wood wood, int tree) {
            boolean dead = wood.kindOf[tree] == DEAD;
            if (dead) {
                note(14);
            }
            note(13);
            note(10);
            int size = wood.sunOf[tree] - 100;
            return dead ? 2 * size : size;
        }

        private int markOfBeech(Wood wood, int tree) {
            int kind = wood.kindOf[tree];
            if (kind == OAK) {
                note(24);
            } else if (kind == BIRCH) {
                note(22);
            }
            note(21);
            note(20);
            int mark = tree + wood.girthOf[tree];
            if (kind == OAK) {
                return 2 * mark;
            }
            return kind == BIRCH ? mark - 1000 : mark;
        }

        private void note(int body) {
            if (traced < MOST_TRACED) {
                numbers[traced] = body;
                traced++;
            }
        }
    }
}
