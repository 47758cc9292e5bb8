/** Promises 19 to 23: type, erase, split, undo, redo. */
public final class EditTest {
    private static final String FORTY = "abcdefghijabcdefghijabcdefghijabcdefghij";

    public static void main(String[] args) {
        type();
        caretBehindMarks();
        erase();
        join();
        joinRefused();
        split();
        undo();
        sixteen();
        undoFolds();
        undoBySettings();
        Due.end();
    }

    private static void type() {
        FoldedRows x = Due.told("ad\nz");
        x.go(0, 1);
        Due.due("type('b')", x.type('b'), 3);
        Due.caretIs("type", x, 0, 2, 2, 0, 2);
        Due.due("type('C')", x.type('C'), 4);
        Due.caretIs("type", x, 0, 3, 4, 0, 4);
        Due.due("type(9)", x.type(9), 5);
        Due.caretIs("type", x, 0, 4, 8, 0, 8);
        Due.lineIs(x, 0, "abC\td");
        Due.lineIs(x, 1, "z");
        int[] none = {10, 91, 93, 0, -1, 33, 46, 64, 96, 123, 127, 128, 97 + 256, 2147483647, -2147483648};
        for (int c : none) {
            Due.due("type(" + c + ")", x.type(c), FoldedRows.BAD);
        }
        Due.due("rule(10)", x.rule(10), 3);
        for (int c : "az-~ AZ".toCharArray()) {
            Due.due("type(" + c + ")", x.type(c), x.line(0, 0));
        }
        Due.lineIs(x, 0, "abC\taz-~ AZd");
        x = Due.told(FORTY);
        Due.due("type() at 40", x.type('a'), FoldedRows.FULL);
        Due.due("type(0) at 40", x.type(0), FoldedRows.BAD);
        Due.due("rule(10) of what is refused", x.rule(10), 0);
        x.step(1);
        x.erase();
        Due.due("type() at 39", x.type('z'), 40);
        Due.lineIs(x, 0, "z" + FORTY.substring(1));
    }

    private static void caretBehindMarks() {
        FoldedRows x = Due.told("~a");
        Due.due("type() ahead of a mark", x.type('b'), 3);
        Due.caretIs("at the next STOP", x, 0, 2, 1, 0, 1);
        x = Due.told("ab");
        x.go(0, 1);
        Due.due("a mark is typed", x.type('~'), 3);
        Due.caretIs("behind a mark", x, 0, 2, 1, 0, 1);
        // What is behind CARET hangs then: CARET goes to the next STOP.
        x = Due.told("abc  d");
        x.set(0, 4);
        x.go(0, 3);
        Due.due("type()", x.type('x'), 7);
        Due.caretIs("hanging", x, 0, 6, 2, 1, 2);
        x.undo();
        Due.caretIs("undo", x, 0, 3, 3, 0, 3);
    }

    private static void erase() {
        FoldedRows x = Due.told("ab~~cA");
        x.go(0, 4);
        Due.due("erase() of a SIGN with marks", x.erase(), 3);
        Due.lineIs(x, 0, "acA");
        Due.caretIs("erase", x, 0, 1, 1, 0, 1);
        Due.due("rule(10)", x.rule(10), 1);
        x.go(0, 3);
        Due.due("erase() of a WIDE one", x.erase(), 1);
        Due.caretIs("erase", x, 0, 2, 2, 0, 2);
        x = Due.told("abcd  \te");
        x.set(0, 4);
        x.go(0, 7);
        Due.due("erase() of what hangs", x.erase(), 4);
        Due.lineIs(x, 0, "abce");
        Due.caretIs("erase", x, 0, 3, 3, 0, 3);
        x = Due.told("~~a");
        x.go(0, 2);
        Due.due("erase() of marks that begin a LINE", x.erase(), 2);
        Due.lineIs(x, 0, "a");
        x = Due.told("a~");
        x.go(0, 2);
        Due.due("erase()", x.erase(), 2);
        Due.due("erase() of nothing", x.erase(), FoldedRows.NONE);
        Due.due("rule(10)", x.rule(10), 1);
    }

    private static void join() {
        FoldedRows x = Due.told("abA\n~c\nd");
        x.go(1, 0);
        Due.due("erase() that joins", x.erase(), 0);
        Due.due("rule(0)", x.rule(0), 2);
        Due.lineIs(x, 0, "abA~c");
        Due.lineIs(x, 1, "d");
        Due.caretIs("at no mark", x, 0, 4, 4, 0, 4);
        x.undo();
        Due.caretIs("undo", x, 1, 0, 0, 1, 0);
        Due.lineIs(x, 1, "~c");
        Due.lineIs(x, 2, "d");
        x = Due.told("ab\ncd\n");
        x.go(2, 0);
        Due.due("erase()", x.erase(), 0);
        Due.caretIs("between them", x, 1, 2, 2, 1, 2);
        x.go(1, 0);
        Due.due("erase()", x.erase(), 0);
        Due.caretIs("between them", x, 0, 2, 2, 0, 2);
        Due.lineIs(x, 0, "abcd");
    }

    private static void joinRefused() {
        FoldedRows x = Due.told(FORTY.substring(1) + "\nab\nc");
        Due.due("erase() at the first LINE", x.erase(), FoldedRows.NONE);
        x.go(1, 0);
        Due.due("erase(), 41 SIGNS", x.erase(), FoldedRows.FULL);
        Due.due("rule(10) of what is refused", x.rule(10), 0);
        Due.caretIs("refused", x, 1, 0, 0, x.at(1, 0, 0), 0);
        x.step(1);
        x.erase();
        Due.due("erase(), 40 SIGNS", x.erase(), 0);
        Due.lineIs(x, 0, FORTY.substring(1) + "b");
        x = Due.told("a\n[" + FORTY + "\n" + FORTY + "]\nb");
        x.shut(0, 1);
        x.go(3, 0);
        Due.due("erase(), the LINE ahead is HIDDEN", x.erase(), FoldedRows.STATE);
        x.type('a');
        x.go(3, 0);
        Due.due("erase(), HIDDEN and full", x.erase(), FoldedRows.STATE);
        x.shut(0, 0);
        Due.due("erase(), full", x.erase(), FoldedRows.FULL);
    }

    private static void split() {
        FoldedRows x = Due.told("ab\tcd\nef");
        x.go(0, 3);
        Due.due("split()", x.split(), 3);
        Due.lineIs(x, 0, "ab\t");
        Due.lineIs(x, 1, "cd");
        Due.lineIs(x, 2, "ef");
        Due.caretIs("split", x, 1, 0, 0, 1, 0);
        Due.due("split() at 0", x.split(), 4);
        Due.lineIs(x, 1, "");
        Due.lineIs(x, 2, "cd");
        x.go(3, 2);
        Due.due("split() at N", x.split(), 5);
        Due.lineIs(x, 4, "");
        Due.caretIs("split", x, 4, 0, 0, 4, 0);
        for (int lines = 6; lines <= 12; lines++) {
            Due.due("split()", x.split(), lines);
        }
        Due.due("split() of 12", x.split(), FoldedRows.FULL);
        Due.due("rule(10)", x.rule(10), 10);
        x.wrap(11, 11);
        x.wrap(10, 11);
        x.shut(0, 1);
        x.go(10, 0);
        Due.due("split() of 12, SHUT", x.split(), FoldedRows.STATE);
        x.shut(0, 0);
        Due.due("split() of 12, OPEN", x.split(), FoldedRows.FULL);
    }

    private static void undo() {
        FoldedRows x = Due.told("ab");
        Due.due("undo() of nothing", x.undo(), FoldedRows.STATE);
        Due.due("redo() of nothing", x.redo(), FoldedRows.STATE);
        x.go(0, 1);
        x.type('x');
        x.split();
        x.erase();
        x.step(0);
        x.erase();
        Due.lineIs(x, 0, "xb");
        Due.due("undo()", x.undo(), 3);
        Due.lineIs(x, 0, "axb");
        Due.caretIs("as it was ahead of the EDIT", x, 0, 1, 1, 0, 1);
        Due.due("rule(11)", x.rule(11), 1);
        x.go(0, 3);
        Due.due("undo()", x.undo(), 2);
        Due.lineIs(x, 1, "b");
        Due.caretIs("undo", x, 1, 0, 0, 1, 0);
        Due.due("redo()", x.redo(), 1);
        Due.caretIs("as it was ahead of undo()", x, 0, 3, 3, 0, 3);
        Due.due("redo()", x.redo(), 0);
        Due.lineIs(x, 0, "xb");
        Due.caretIs("redo", x, 0, 0, 0, 0, 0);
        Due.due("redo()", x.redo(), FoldedRows.STATE);
        Due.due("undo()", x.undo(), 3);
        Due.due("undo()", x.undo(), 2);
        x.type(0);
        Due.due("a refused EDIT leaves UNDONE", x.rule(11), 2);
        x.type('q');
        Due.due("none are UNDONE behind an EDIT", x.rule(11), 0);
        Due.due("redo()", x.redo(), FoldedRows.STATE);
        Due.due("rule(10)", x.rule(10), 3);
        Due.due("undo()", x.undo(), 2);
        Due.due("undo()", x.undo(), 1);
        Due.due("undo()", x.undo(), 0);
        Due.due("undo()", x.undo(), FoldedRows.STATE);
        Due.lineIs(x, 0, "ab");
        Due.due("redo()", x.redo(), 2);
        Due.lineIs(x, 0, "axb");
    }

    private static void sixteen() {
        FoldedRows x = new FoldedRows();
        for (int i = 0; i < 19; i++) {
            x.type('a' + i);
            Due.due("rule(10)", x.rule(10), Math.min(16, i + 1));
        }
        for (int i = 15; i >= 0; i--) {
            Due.due("undo()", x.undo(), i);
            Due.due("line(0, 0)", x.line(0, 0), i + 3);
        }
        Due.due("undo()", x.undo(), FoldedRows.STATE);
        Due.lineIs(x, 0, "abc");
        Due.due("rule(11)", x.rule(11), 16);
        for (int i = 15; i >= 0; i--) {
            Due.due("redo()", x.redo(), i);
            Due.due("line(0, 0)", x.line(0, 0), 19 - i);
        }
        Due.lineIs(x, 0, "abcdefghijklmnopqrs");
        x.type('t');
        Due.due("rule(10) at 16", x.rule(10), 16);
        x.undo();
        Due.lineIs(x, 0, "abcdefghijklmnopqrs");
    }

    private static void undoFolds() {
        FoldedRows x = Due.told("a\n[b\nc]\nd");
        x.type('x');
        x.shut(0, 1);
        x.wrap(0, 2);
        Due.due("folds and settings are no EDITS", x.rule(10), 1);
        Due.due("undo()", x.undo(), 0);
        Due.due("FOLDS as they were", x.rule(4), 1);
        Due.foldIs("undo", x, 0, 1, 2, 0, 0);
        Due.due("redo()", x.redo(), 0);
        Due.foldIs("redo", x, 0, 0, 2, 0, 0);
        Due.foldIs("redo", x, 1, 1, 2, 1, 1);
        x.go(3, 1);
        x.type('y');
        x.unwrap(1);
        Due.due("rule(3)", x.rule(3), 0);
        x.undo();
        Due.due("SHUT again", x.rule(3), 1);
        Due.caretIs("undo", x, 3, 1, 1, 2, 1);
    }

    private static void undoBySettings() {
        FoldedRows x = Due.told("abcd e");
        x.go(0, 4);
        x.type(' ');
        x.set(0, 4);
        Due.caretIs("set", x, 0, 6, 2, 1, 2);
        Due.due("undo()", x.undo(), 0);
        Due.due("WIDTH is none of it", x.rule(6), 4);
        Due.caretIs("at the next STOP", x, 0, 5, 2, 1, 2);
        Due.due("redo()", x.redo(), 0);
        Due.caretIs("redo", x, 0, 6, 2, 1, 2);
    }
}
