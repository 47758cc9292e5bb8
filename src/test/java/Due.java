/** What the tests of the project share: the answers that are due, counted. */
final class Due {
    private static int wrong = 0;
    private static int asked = 0;

    static void due(String call, int got, int want) {
        asked++;
        if (got != want) {
            wrong++;
            System.out.println(call + " answered " + got + ", due is " + want);
        }
    }

    static void must(boolean holds, String what) {
        asked++;
        if (!holds) {
            wrong++;
            System.out.println(what);
        }
    }

    static FoldedRows told(String text) {
        FoldedRows x = new FoldedRows();
        tell(x, text);
        return x;
    }

    /** Feeds a text and takes it. */
    static int tell(FoldedRows x, String text) {
        for (int i = 0; i < text.length(); i++) {
            x.feed(text.charAt(i));
        }
        return x.text();
    }

    /** The SIGNS of a LINE, asked one by one. */
    static void lineIs(FoldedRows x, int l, String signs) {
        due("line(" + l + ", 0) of \"" + signs + "\"", x.line(l, 0), signs.length());
        for (int i = 0; i < signs.length(); i++) {
            due("sign(" + l + ", " + i + ") of \"" + signs + "\"", x.sign(l, i), signs.charAt(i));
        }
        due("sign(" + l + ", " + signs.length() + ") of \"" + signs + "\"", x.sign(l, signs.length()), FoldedRows.NONE);
    }

    /** CARET: LINE, PLACE, GOAL, ROW, COLUMN. */
    static void caretIs(String when, FoldedRows x, int... want) {
        for (int what = 0; what < want.length; what++) {
            due(when + ": caret(" + what + ")", x.caret(what), want[what]);
        }
    }

    /** A FOLD: FIRST, LAST, SHUT, in how many others. */
    static void foldIs(String when, FoldedRows x, int k, int... want) {
        for (int what = 0; what < want.length; what++) {
            due(when + ": fold(" + k + ", " + what + ")", x.fold(k, what), want[what]);
        }
    }

    /** A ROW: LINE, first PLACE, PLACE behind, first COLUMN, COLUMN behind. */
    static void rowIs(String when, FoldedRows x, int r, int... want) {
        for (int what = 0; what < want.length; what++) {
            due(when + ": row(" + r + ", " + what + ")", x.row(r, what), want[what]);
        }
    }

    static void end() {
        System.out.println(asked + " asked, " + wrong + " wrong");
        if (wrong != 0) {
            System.exit(1);
        }
    }
}
