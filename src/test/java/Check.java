/** What the tests share: answers compared with those that are due, and woods told by texts. */
final class Check {
    static final int NULL = -1000011, PLACE = -1000012, KIND = -1000013, SIZE = -1000014, STORE = -1000015;
    static final int NONE = BarkNames.NONE, BAD = BarkNames.BAD, STATE = BarkNames.STATE, FULL = BarkNames.FULL;

    /** A beech, an oak, a birch, a pine and eight cuts. */
    static final String FOUR = "w5;b40,9;o60,8;y30,2;p20,3;c0,1,0,6;c0,2,5,3;c0,3,12,9;c0,4,30,2;"
            + "c1,5,59,4;c1,6,2,4;c3,7,9,1;c3,8,39,20;";

    private static int asked = 0;
    private static int wrong = 0;
    private static String sentence = "";

    private Check() {
    }

    /** What is compared from now on is due by this sentence of the document. */
    static void says(String words) {
        sentence = "\"" + words + "\": ";
    }

    static void due(String call, int got, int want) {
        asked++;
        if (got != want) {
            wrong++;
            System.out.println(sentence + call + " answered " + got + ", due is " + want);
        }
    }

    static void feed(BarkNames x, String text) {
        for (int i = 0; i < text.length(); i++) {
            x.feed(text.charAt(i));
        }
    }

    static int read(BarkNames x, String text) {
        feed(x, text);
        return x.wood();
    }

    static BarkNames of(String text) {
        BarkNames x = new BarkNames();
        int cuts = read(x, text);
        if (cuts < 0) {
            wrong++;
            System.out.println("the test's own text " + text + " was not read: " + cuts);
        }
        return x;
    }

    /** Row 0 of ints with these items. */
    static void fill(BarkNames x, int... items) {
        x.row(0, 2, items.length);
        for (int i = 0; i < items.length; i++) {
            x.set(0, i, items[i]);
        }
    }

    static void end() {
        System.out.println(asked + " answers, " + wrong + " not as due");
        if (wrong != 0) {
            System.exit(1);
        }
    }
}
