/** Promises 13, 24 to 27: fold, wrap, shut, unwrap, set; and FOLDS that follow EDITS. */
public final class FoldTest {
    public static void main(String[] args) {
        wrap();
        wrapFull();
        shut();
        unwrap();
        splitFolds();
        joinFolds();
        joinFoldsGo();
        set();
        wrongNumbers();
        Due.end();
    }

    private static FoldedRows lines(int n) {
        FoldedRows x = new FoldedRows();
        for (int l = 1; l < n; l++) {
            x.split();
        }
        return x;
    }

    private static void wrap() {
        FoldedRows x = lines(8);
        Due.due("wrap(2, 5)", x.wrap(2, 5), 0);
        Due.due("wrap(0, 1)", x.wrap(0, 1), 0);
        Due.due("wrap(2, 6)", x.wrap(2, 6), 1);
        Due.due("wrap(2, 3)", x.wrap(2, 3), 3);
        Due.due("wrap(4, 5)", x.wrap(4, 5), 4);
        Due.due("wrap(0, 7)", x.wrap(0, 7), 0);
        int[][] folds = {{0, 7, 0, 0}, {0, 1, 0, 1}, {2, 6, 0, 1}, {2, 5, 0, 2}, {2, 3, 0, 3}, {4, 5, 0, 3}};
        for (int k = 0; k < folds.length; k++) {
            Due.foldIs("wrap", x, k, folds[k]);
        }
        Due.due("the same", x.wrap(2, 5), FoldedRows.STATE);
        Due.due("CROSSES", x.wrap(1, 2), FoldedRows.STATE);
        Due.due("CROSSES", x.wrap(1, 7), FoldedRows.STATE);
        Due.due("CROSSES", x.wrap(3, 4), FoldedRows.STATE);
        Due.due("CROSSES", x.wrap(5, 6), FoldedRows.STATE);
        Due.due("CROSSES", x.wrap(6, 7), FoldedRows.STATE);
        Due.due("rule(4)", x.rule(4), 6);
        Due.due("not greater", x.wrap(3, 3), FoldedRows.BAD);
        Due.due("not greater", x.wrap(3, 2), FoldedRows.BAD);
        Due.due("no LINE", x.wrap(-1, 2), FoldedRows.BAD);
        Due.due("no LINE", x.wrap(7, 8), FoldedRows.BAD);
        Due.due("no LINE", x.wrap(8, 9), FoldedRows.BAD);
        Due.due("no LINE", x.wrap(0, 2147483647), FoldedRows.BAD);
        Due.due("no EDIT", x.rule(10), 7);
    }

    private static void wrapFull() {
        FoldedRows x = lines(12);
        for (int b = 11; b > 3; b--) {
            Due.due("wrap(0, " + b + ")", x.wrap(0, b), 11 - b);
        }
        Due.due("wrap(0, 3), the ninth", x.wrap(0, 3), FoldedRows.FULL);
        Due.due("wrap(0, 5), the same", x.wrap(0, 5), FoldedRows.STATE);
        Due.due("wrap(1, 0)", x.wrap(1, 0), FoldedRows.BAD);
        Due.due("rule(4)", x.rule(4), 8);
        Due.due("in how many", x.fold(7, 3), 7);
        x.unwrap(0);
        Due.due("wrap(0, 3)", x.wrap(0, 3), 7);
        // A SHUT one keeps that as others come ahead of it.
        FoldedRows y = lines(5);
        y.wrap(3, 4);
        y.shut(0, 1);
        Due.due("wrap(0, 1)", y.wrap(0, 1), 0);
        Due.foldIs("wrap", y, 0, 0, 1, 0, 0);
        Due.foldIs("wrap", y, 1, 3, 4, 1, 0);
        y.unwrap(0);
        Due.foldIs("unwrap", y, 0, 3, 4, 1, 0);
        y.unwrap(0);
        Due.due("wrap(3, 4)", y.wrap(3, 4), 0);
        Due.due("it is OPEN", y.fold(0, 2), 0);
    }

    private static void shut() {
        FoldedRows x = Due.told("a\n[bc\n[de\nfg]\nhi]\nj");
        x.go(3, 1);
        Due.due("shut(1, 1)", x.shut(1, 1), 0);
        Due.caretIs("CARET goes", x, 2, 0, 0, 2, 0);
        Due.due("shut(1, 1) again", x.shut(1, 1), 1);
        x.go(2, 1);
        Due.due("shut(1, 1) again", x.shut(1, 1), 1);
        Due.caretIs("CARET stays", x, 2, 1, 1, 2, 1);
        Due.due("shut(0, 1)", x.shut(0, 1), 0);
        Due.caretIs("CARET goes", x, 1, 0, 0, 1, 0);
        Due.due("rule(3)", x.rule(3), 3);
        Due.due("rule(5)", x.rule(5), 2);
        Due.due("shut(0, 0)", x.shut(0, 0), 1);
        Due.due("rule(3)", x.rule(3), 1);
        Due.due("shut(0, 0) again", x.shut(0, 0), 0);
        x.go(1, 2);
        x.down(-1);
        Due.caretIs("GOAL 2", x, 0, 1, 2, 0, 1);
        x.shut(0, 1);
        Due.caretIs("GOAL stays as CARET does", x, 0, 1, 2, 0, 1);
        x.shut(0, 0);
        x.go(4, 1);
        x.shut(0, 1);
        Due.caretIs("the LAST is HIDDEN, too", x, 1, 0, 0, 1, 0);
        Due.due("rule(2)", x.rule(2), 3);
        Due.due("no EDIT", x.rule(10), 0);
    }

    private static void unwrap() {
        FoldedRows x = Due.told("[[a\nb]\n[c\nd]\ne]");
        x.shut(2, 1);
        Due.due("unwrap(1)", x.unwrap(1), 2);
        Due.foldIs("unwrap", x, 0, 0, 4, 0, 0);
        Due.foldIs("unwrap", x, 1, 2, 3, 1, 1);
        Due.due("rule(3)", x.rule(3), 1);
        Due.due("unwrap(1)", x.unwrap(1), 1);
        Due.due("HIDDEN no more", x.rule(3), 0);
        Due.due("unwrap(0)", x.unwrap(0), 0);
        Due.due("unwrap(0)", x.unwrap(0), FoldedRows.BAD);
        // Nothing of one that went is left, neither what it hid nor that it was SHUT.
        x = Due.told("[a\nb]\nc");
        x.shut(0, 1);
        x.unwrap(0);
        Due.due("rule(3)", x.rule(3), 0);
        Due.due("rule(5)", x.rule(5), 0);
        Due.due("go(1, 0)", x.go(1, 0), 1);
        x.go(0, 1);
        Due.due("split()", x.split(), 4);
        Due.due("wrap(1, 2)", x.wrap(1, 2), 0);
        Due.foldIs("wrap", x, 0, 1, 2, 0, 0);
    }

    private static void splitFolds() {
        FoldedRows x = Due.told("[a\n[b\nc]\n[d\ne]]\nf");
        x.shut(2, 1);
        x.go(2, 1);
        Due.due("split() of a LAST", x.split(), 7);
        Due.foldIs("split", x, 0, 0, 5, 0, 0);
        Due.foldIs("split", x, 1, 1, 3, 0, 1);
        Due.foldIs("split", x, 2, 4, 5, 1, 1);
        x.go(1, 1);
        Due.due("split() of a FIRST", x.split(), 8);
        Due.foldIs("split", x, 0, 0, 6, 0, 0);
        Due.foldIs("split", x, 1, 1, 4, 0, 1);
        Due.foldIs("split", x, 2, 5, 6, 1, 1);
        x.go(5, 0);
        Due.due("split() of a FIRST that is SHUT", x.split(), FoldedRows.STATE);
        x.go(7, 1);
        Due.due("split() behind all", x.split(), 9);
        Due.foldIs("split", x, 0, 0, 6, 0, 0);
        Due.foldIs("split", x, 2, 5, 6, 1, 1);
        x.go(0, 0);
        Due.due("split() of the outer FIRST", x.split(), 10);
        Due.foldIs("split", x, 0, 0, 7, 0, 0);
        Due.foldIs("split", x, 1, 2, 5, 0, 1);
        Due.foldIs("split", x, 2, 6, 7, 1, 1);
    }

    private static void joinFolds() {
        FoldedRows x = Due.told("z\n[a\n[b\nc\nd]\n[e\nf\ng]]\nh");
        x.shut(2, 1);
        x.go(3, 0);
        Due.due("erase() within", x.erase(), 0);
        Due.foldIs("join", x, 0, 1, 6, 0, 0);
        Due.foldIs("join", x, 1, 2, 3, 0, 1);
        Due.foldIs("join", x, 2, 4, 6, 1, 1);
        x.go(1, 0);
        Due.due("erase() of a FIRST", x.erase(), 0);
        Due.foldIs("join", x, 0, 0, 5, 0, 0);
        Due.foldIs("join", x, 1, 1, 2, 0, 1);
        Due.foldIs("join", x, 2, 3, 5, 1, 1);
        x.go(1, 0);
        Due.due("erase(), two FIRSTS become one", x.erase(), 0);
        Due.foldIs("join", x, 0, 0, 4, 0, 0);
        Due.foldIs("join", x, 1, 0, 1, 0, 1);
        Due.foldIs("join", x, 2, 2, 4, 1, 1);
        x.shut(2, 0);
        x.go(5, 0);
        Due.due("erase() of the LINE behind a LAST", x.erase(), 0);
        Due.foldIs("join", x, 0, 0, 4, 0, 0);
        Due.foldIs("join", x, 2, 2, 4, 0, 1);
        Due.due("rule(4)", x.rule(4), 3);
    }

    private static void joinFoldsGo() {
        // Less than two LINES.
        FoldedRows x = Due.told("[a\nb]\n[c\nd]");
        x.go(1, 0);
        x.erase();
        Due.due("one LINE", x.rule(4), 1);
        Due.foldIs("join", x, 0, 1, 2, 0, 0);
        // The same as one that stayed: the one that is numbered first stays, as it was.
        x = Due.told("[a\n[b\nc]]");
        x.shut(1, 1);
        x.go(1, 0);
        x.erase();
        Due.due("the same", x.rule(4), 1);
        Due.foldIs("join", x, 0, 0, 1, 0, 0);
        Due.due("rule(3)", x.rule(3), 0);
        // CROSSES one that stayed; that was SHUT.
        x = Due.told("[a\nb]\n[c\nd]");
        x.shut(1, 1);
        x.go(2, 0);
        x.erase();
        Due.due("CROSSES", x.rule(4), 1);
        Due.foldIs("join", x, 0, 0, 1, 0, 0);
        Due.due("rule(3)", x.rule(3), 0);
        Due.due("rule(0)", x.rule(0), 3);
        x.undo();
        Due.foldIs("undo", x, 1, 2, 3, 1, 0);
        // By what goes, others may stay: (1, 2) goes, so (2, 3) does not CROSS it.
        x = Due.told("[a\nb]\n[[c\nd]\ne]");
        x.go(2, 0);
        x.erase();
        Due.due("CROSSES twice", x.rule(4), 1);
        x = Due.told("[a\nb\n[c\nd]]\n[e\nf]");
        x.go(3, 0);
        x.erase();
        Due.due("one LINE, and two stay", x.rule(4), 2);
        Due.foldIs("join", x, 0, 0, 2, 0, 0);
        Due.foldIs("join", x, 1, 3, 4, 0, 0);
        x.go(3, 0);
        x.erase();
        Due.due("CROSSES the outer one", x.rule(4), 1);
        x = Due.told("a[\n[b\nc]\nd]");
        x.go(1, 0);
        x.erase();
        Due.due("both stay", x.rule(4), 2);
        Due.foldIs("join", x, 0, 0, 2, 0, 0);
        Due.foldIs("join", x, 1, 0, 1, 0, 1);
        x.go(2, 0);
        x.erase();
        Due.due("the same", x.rule(4), 1);
    }

    private static void set() {
        FoldedRows x = Due.told("abcdef gh");
        int[] first = {20, 4, 2, 2};
        int[] least = {4, 1, 0, 0};
        int[] most = {40, 8, 2, 7};
        for (int what = 0; what < 4; what++) {
            Due.due("set(" + what + ", least)", x.set(what, least[what]), first[what]);
            Due.due("rule() of the least", x.rule(6 + what), least[what]);
            Due.due("set(" + what + ", most)", x.set(what, most[what]), least[what]);
            Due.due("rule() of the most", x.rule(6 + what), most[what]);
            Due.due("set(" + what + ", less)", x.set(what, least[what] - 1), FoldedRows.BAD);
            Due.due("set(" + what + ", more)", x.set(what, most[what] + 1), FoldedRows.BAD);
            Due.due("set(" + what + ", MAX)", x.set(what, 2147483647), FoldedRows.BAD);
            Due.due("set(" + what + ", MIN)", x.set(what, -2147483648), FoldedRows.BAD);
            Due.due("set(" + what + ", first)", x.set(what, first[what]), most[what]);
        }
        Due.due("set(4, 4)", x.set(4, 4), FoldedRows.BAD);
        Due.due("set(-1, 4)", x.set(-1, 4), FoldedRows.BAD);
        x.go(0, 6);
        Due.due("set(0, 6)", x.set(0, 6), 20);
        Due.caretIs("what is behind CARET hangs", x, 0, 7, 2, 1, 2);
        Due.due("set(3, 0)", x.set(3, 0), 2);
        Due.caretIs("GOAL by EXTRA", x, 0, 7, 0, 1, 0);
        Due.due("set(2, 0)", x.set(2, 0), 2);
        Due.caretIs("GOAL by MODE", x, 0, 7, 7, 0, 7);
        Due.due("no EDIT", x.rule(10), 0);
    }

    private static void wrongNumbers() {
        FoldedRows x = Due.told("[a\nb]");
        int[] beyond = {-1, 1, 8, 2147483647, -2147483648};
        for (int k : beyond) {
            Due.due("fold(" + k + ", 0)", x.fold(k, 0), -1);
            Due.due("shut(" + k + ", 1)", x.shut(k, 1), -1);
            Due.due("unwrap(" + k + ")", x.unwrap(k), -1);
        }
        Due.due("fold(0, 4)", x.fold(0, 4), -1);
        Due.due("fold(0, -1)", x.fold(0, -1), -1);
        Due.due("shut(0, 2)", x.shut(0, 2), -1);
        Due.due("shut(0, -1)", x.shut(0, -1), -1);
        Due.foldIs("refused", x, 0, 0, 1, 0, 0);
    }
}
