/** Promises 14 to 18: caret, go, step, down, edge. */
public final class CaretTest {
    private static final int MAX = 2147483647;
    private static final int MIN = -2147483648;

    public static void main(String[] args) {
        go();
        step();
        stepOverHiddenLines();
        down();
        downBySettings();
        edge();
        wrongNumbers();
        Due.end();
    }

    private static FoldedRows small(String text) {
        FoldedRows x = Due.told(text);
        x.set(0, 4);
        x.set(3, 0);
        return x;
    }

    private static void go() {
        FoldedRows x = small("abcd  ef\n~g\n[hi\nj]");
        Due.due("go(0, 3)", x.go(0, 3), 0);
        Due.caretIs("go", x, 0, 3, 3, 0, 3);
        Due.due("go(0, 4), which hangs", x.go(0, 4), FoldedRows.STATE);
        Due.due("go(0, 5), which hangs", x.go(0, 5), FoldedRows.STATE);
        Due.caretIs("refused", x, 0, 3, 3, 0, 3);
        Due.due("go(0, 6)", x.go(0, 6), 1);
        Due.due("go(0, 8)", x.go(0, 8), 1);
        Due.caretIs("go", x, 0, 8, 2, 1, 2);
        Due.due("go(1, 0), ahead of a mark", x.go(1, 0), 2);
        Due.due("go(1, 1)", x.go(1, 1), 2);
        Due.caretIs("go", x, 1, 1, 1, 2, 1);
        Due.due("go(3, 1)", x.go(3, 1), 4);
        Due.due("go(2, 1)", x.go(2, 1), 3);
        x.shut(0, 1);
        Due.due("go(3, 1), HIDDEN", x.go(3, 1), FoldedRows.STATE);
        Due.due("go(3, 9), HIDDEN and no PLACE", x.go(3, 9), FoldedRows.BAD);
        Due.caretIs("refused", x, 2, 1, 1, 3, 1);
        FoldedRows y = small("a~b");
        Due.due("go(0, 1), ahead of a mark", y.go(0, 1), FoldedRows.STATE);
        Due.due("go(0, 2)", y.go(0, 2), 0);
    }

    private static void step() {
        FoldedRows x = small("ab~cd  ~e\n\nfg");
        int[] places = {1, 3, 4, 8, 9};
        for (int p : places) {
            Due.due("step(1) to " + p, x.step(1), p);
            Due.due("its GOAL", x.caret(2), x.at(0, p, 1));
        }
        Due.due("step(1) to the next LINE", x.step(1), 0);
        Due.caretIs("next LINE", x, 1, 0, 0, 2, 0);
        Due.due("step(1)", x.step(1), 0);
        Due.due("step(1)", x.step(1), 1);
        Due.due("step(1)", x.step(1), 2);
        Due.due("step(1) at the end of all", x.step(1), FoldedRows.NONE);
        Due.caretIs("the end", x, 2, 2, 2, 3, 2);
        Due.due("step(0)", x.step(0), 1);
        Due.due("step(0)", x.step(0), 0);
        Due.due("step(0)", x.step(0), 0);
        Due.due("step(0) to the LINE ahead", x.step(0), 9);
        Due.caretIs("LINE ahead", x, 0, 9, 1, 1, 1);
        for (int k = places.length - 2; k >= 0; k--) {
            Due.due("step(0) to " + places[k], x.step(0), places[k]);
        }
        Due.due("step(0)", x.step(0), 0);
        Due.due("step(0) at the beginning of all", x.step(0), FoldedRows.NONE);
    }

    private static void stepOverHiddenLines() {
        FoldedRows x = Due.told("ab\n[c\nd\ne]\nfg");
        x.shut(0, 1);
        x.go(1, 1);
        Due.due("step(1) over HIDDEN LINES", x.step(1), 0);
        Due.caretIs("over HIDDEN LINES", x, 4, 0, 0, 2, 0);
        Due.due("step(0) over HIDDEN LINES", x.step(0), 1);
        Due.caretIs("over HIDDEN LINES", x, 1, 1, 1, 1, 1);
        FoldedRows y = Due.told("[ab\nc]");
        y.shut(0, 1);
        y.go(0, 2);
        Due.due("step(1), HIDDEN LINES alone behind", y.step(1), FoldedRows.NONE);
    }

    private static void down() {
        FoldedRows x = Due.told("abcdef\ngh\n[ijklm\nno\np]\nq\trs");
        x.go(0, 5);
        Due.due("down(1)", x.down(1), 1);
        Due.caretIs("a shorter ROW", x, 1, 2, 5, 1, 2);
        Due.due("down(1)", x.down(1), 2);
        Due.caretIs("GOAL stays", x, 2, 5, 5, 2, 5);
        Due.due("down(0)", x.down(0), 2);
        Due.due("down(3)", x.down(3), 5);
        Due.caretIs("a TAB", x, 5, 3, 5, 5, 5);
        Due.due("down(1) at the last", x.down(1), 5);
        Due.due("down(-5)", x.down(-5), 0);
        Due.caretIs("up", x, 0, 5, 5, 0, 5);
        Due.due("down(MAX) at ROW 0", x.down(MAX), 5);
        Due.due("down(MAX) at ROW 5", x.down(MAX), FoldedRows.FULL);
        Due.due("down(MAX - 4) at ROW 5", x.down(MAX - 4), FoldedRows.FULL);
        Due.due("down(MAX - 5) at ROW 5", x.down(MAX - 5), 5);
        Due.due("down(MIN)", x.down(MIN), 0);
        x.go(5, 1);
        Due.due("GOAL is that of the TAB", x.caret(2), 1);
        x.down(-1);
        Due.caretIs("up from the TAB", x, 4, 1, 1, 4, 1);
        x.go(0, 3);
        x.down(5);
        Due.caretIs("within the TAB", x, 5, 1, 3, 5, 1);
        x.shut(0, 1);
        Due.due("down(-1) over HIDDEN LINES", x.down(-1), 2);
        Due.caretIs("over HIDDEN LINES", x, 2, 3, 3, 2, 3);
    }

    private static void downBySettings() {
        FoldedRows x = Due.told("abcdefgh");
        x.set(0, 4);
        x.go(0, 1);
        x.down(1);
        Due.caretIs("a ROW with an INDENT", x, 0, 4, 1, 1, 2);
        x.down(1);
        Due.caretIs("down", x, 0, 6, 1, 2, 2);
        x.down(-2);
        Due.caretIs("up", x, 0, 1, 1, 0, 1);
        x.down(1);
        x.set(1, 4);
        Due.due("GOAL by set()", x.caret(2), 2);
    }

    private static void edge() {
        FoldedRows x = small("abcd  efgh\nAB");
        x.go(0, 2);
        Due.due("edge(1) ahead of what hangs", x.edge(1), 3);
        Due.caretIs("edge(1)", x, 0, 3, 3, 0, 3);
        Due.due("edge(1) again", x.edge(1), 3);
        Due.due("edge(0)", x.edge(0), 0);
        Due.caretIs("edge(0)", x, 0, 0, 0, 0, 0);
        x.go(0, 7);
        Due.due("edge(0) of ROW 1", x.edge(0), 6);
        Due.due("edge(1) of ROW 1", x.edge(1), 10);
        Due.caretIs("edge(1)", x, 0, 10, 4, 1, 4);
        Due.due("edge(0) behind all", x.edge(0), 6);
        x.go(1, 1);
        Due.due("edge(1), WIDE ones", x.edge(1), 2);
        Due.caretIs("edge(1)", x, 1, 2, 4, 2, 4);
        FoldedRows y = Due.told("abcdefg");
        y.set(0, 4);
        y.go(0, 5);
        Due.due("edge(0) with an INDENT", y.edge(0), 4);
        Due.caretIs("edge(0)", y, 0, 4, 2, 1, 2);
    }

    private static void wrongNumbers() {
        FoldedRows x = Due.told("abc\nd");
        x.go(0, 2);
        int[] beyond = {-1, 2, MAX, MIN};
        for (int v : beyond) {
            Due.due("go(" + v + ", 0)", x.go(v, 0), -1);
            Due.due("go(1, " + v + ")", x.go(1, v), -1);
            Due.due("step(" + v + ")", x.step(v), -1);
            Due.due("edge(" + v + ")", x.edge(v), -1);
        }
        Due.due("caret(-1)", x.caret(-1), -1);
        Due.due("caret(5)", x.caret(5), -1);
        Due.due("caret(MIN)", x.caret(MIN), -1);
        Due.caretIs("refused", x, 0, 2, 2, 0, 2);
    }
}
