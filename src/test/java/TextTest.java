/** Promises 1 to 5: a new object, feed, end, text, fault. */
public final class TextTest {
    public static void main(String[] args) {
        newObject();
        tape();
        texts();
        faults();
        faultsOfFolds();
        whatATextLeaves();
        nothingOfEarlierTexts();
        Due.end();
    }

    private static void newObject() {
        FoldedRows x = new FoldedRows();
        int[] rules = {1, 0, 1, 0, 0, 0, 20, 4, 2, 2, 0, 0, 0, 0};
        for (int what = 0; what < rules.length; what++) {
            Due.due("new: rule(" + what + ")", x.rule(what), rules[what]);
        }
        Due.caretIs("new", x, 0, 0, 0, 0, 0);
        Due.lineIs(x, 0, "");
        Due.due("new: line(0, 1)", x.line(0, 1), 1);
        Due.due("new: line(0, 3)", x.line(0, 3), 2);
        Due.due("new: line(0, 4)", x.line(0, 4), 1);
        Due.rowIs("new", x, 0, 0, 0, 0, 0, 0);
        Due.due("new: fault()", x.fault(), 0);
        for (int k = 0; k < 4; k++) {
            Due.due("new: lay(" + k + ", 0, 1)", x.lay(k, 0, 1), -11);
        }
        Due.due("new: back(0)", x.back(0), FoldedRows.STATE);
        Due.due("new: undo()", x.undo(), FoldedRows.STATE);
        Due.due("new: redo()", x.redo(), FoldedRows.STATE);
    }

    private static void tape() {
        FoldedRows x = new FoldedRows();
        Due.due("feed(-1)", x.feed(-1), FoldedRows.BAD);
        Due.due("feed(128)", x.feed(128), FoldedRows.BAD);
        Due.due("feed(0)", x.feed(0), 1);
        Due.due("feed(127)", x.feed(127), 2);
        Due.due("end(3)", x.end(3), FoldedRows.BAD);
        Due.due("end(-1)", x.end(-1), FoldedRows.BAD);
        Due.due("end(2)", x.end(2), 2);
        Due.due("end(1)", x.end(1), 2);
        Due.due("rule(12)", x.rule(12), 1);
        Due.due("end(0)", x.end(0), 1);
        for (int i = 1; i <= 400; i++) {
            Due.due("feed " + i, x.feed('a'), i);
        }
        Due.due("feed 401", x.feed('a'), FoldedRows.FULL);
        Due.due("feed(128) at 400", x.feed(128), FoldedRows.BAD);
        Due.due("rule(12) at 400", x.rule(12), 400);
        Due.due("end(3) at 400", x.end(3), 400);
        Due.due("text()", x.text(), 1);
        Due.lineIs(x, 0, "aaa");
        Due.due("rule(12) behind text()", x.rule(12), 0);
    }

    private static void texts() {
        FoldedRows x = new FoldedRows();
        Due.due("an empty text", Due.tell(x, ""), 1);
        Due.lineIs(x, 0, "");
        Due.due("all kinds", Due.tell(x, "azAZ -\t~\n\nb\n"), 4);
        Due.lineIs(x, 0, "azAZ -\t~");
        Due.lineIs(x, 1, "");
        Due.lineIs(x, 2, "b");
        Due.lineIs(x, 3, "");
        Due.due("rule(1)", x.rule(1), 9);
        // Four begin at LINE 0, and are numbered by their LASTs, the greater first.
        Due.due("folds", Due.tell(x, "[[[a\nb]\nc]\n[d\n]e]"), 5);
        Due.due("rule(4)", x.rule(4), 4);
        Due.foldIs("folds", x, 0, 0, 4, 0, 0);
        Due.foldIs("folds", x, 1, 0, 2, 0, 1);
        Due.foldIs("folds", x, 2, 0, 1, 0, 2);
        Due.foldIs("folds", x, 3, 3, 4, 0, 1);
        Due.lineIs(x, 4, "e");
        Due.due("eight", Due.tell(x, "[[[[[[[[\n]\n]\n]\n]\n]\n]\n]\n]"), 9);
        Due.due("rule(4) of eight", x.rule(4), 8);
    }

    private static void fails(String text, int answer, int fault) {
        FoldedRows x = Due.told("keep\nthis");
        Due.due("text() of " + text, Due.tell(x, text), answer);
        Due.due("fault() of " + text, x.fault(), fault);
        Due.due("rule(12) behind " + text, x.rule(12), 0);
        Due.due("rule(0) behind " + text, x.rule(0), 2);
        Due.lineIs(x, 1, "this");
        Due.due("fault() behind a text that is taken", Due.tell(x, "a") + x.fault(), 1);
    }

    private static void faults() {
        int[] none = {0, 8, 11, 13, 31, 33, 44, 46, 64, 92, 94, 96, 123, 125, 127, '0'};
        for (int c : none) {
            fails("a" + (char) c + "!", -11, 1);
        }
        String forty = "abcdefghijabcdefghijabcdefghijabcdefghij";
        fails(forty + "a", -50, 2);
        fails("a\n" + forty + "a", -52, 2);
        fails(forty + "!", -50, 1);
        FoldedRows x = new FoldedRows();
        Due.due("forty and forty", Due.tell(x, forty + "\n" + forty), 2);
        Due.lineIs(x, 1, forty);
        Due.due("twelve LINES", Due.tell(x, "\n\n\n\n\n\n\n\n\n\n\n"), 12);
        fails("a\nb\nc\nd\ne\nf\ng\nh\ni\nj\nk\nl\n", -33, 3);
    }

    private static void faultsOfFolds() {
        fails("[[[[[[[[[", -18, 4);
        // The ninth [ counts those that have been ended, too.
        fails("[\n]\n[\n]\n[\n]\n[\n]\n[\n]\n[[[\n]]", -10 - 25, 5);
        fails("[\n]\n[\n]\n[\n]\n[\n]\n[\n]\n[[[[", -10 - 23, 4);
        fails("[[[[\n]\n]\n]\n]\n[[\n]\n]\n[[\n]\n[", -10 - 25, 4);
        fails("]", -10, 5);
        fails("ab]", -12, 5);
        fails("[a]", -12, 5);
        fails("[[a\n]]", -15, 5);
        fails("[\n][\n]", -15, 5);
        fails("[\n]]", -13, 5);
        fails("[", -11, 6);
        fails("a\n[b\nc", -16, 6);
        fails("[[a\nb]", -16, 6);
    }

    private static void whatATextLeaves() {
        FoldedRows x = Due.told("ab\ncd");
        x.set(0, 9);
        x.set(1, 3);
        x.set(2, 1);
        x.set(3, 5);
        x.sheet(1, 0, 2);
        x.lay(1, 0, 'q');
        x.keep(0);
        x.go(1, 2);
        x.type('e');
        x.type('f');
        x.undo();
        Due.due("a text with a FAULT", Due.tell(x, "a\n!"), -12);
        Due.due("IMAGES stay by a FAULT", x.rule(13), 1);
        Due.due("DONE stay by a FAULT", x.rule(10), 1);
        Due.due("UNDONE stay by a FAULT", x.rule(11), 1);
        Due.caretIs("by a FAULT", x, 1, 3, 3, 1, 3);
        Due.due("a text that is taken", Due.tell(x, "xyz\nuv"), 2);
        Due.caretIs("behind a text", x, 0, 0, 0, 0, 0);
        int[] rules = {2, 5, 2, 0, 0, 0, 9, 3, 1, 5, 0, 0, 0, 0};
        for (int what = 0; what < rules.length; what++) {
            Due.due("behind a text: rule(" + what + ")", x.rule(what), rules[what]);
        }
        Due.due("back(0) behind a text", x.back(0), FoldedRows.STATE);
        Due.due("paste of a SHEET behind a text", x.paste(1, 0, 0, 1), 4);
        Due.lineIs(x, 0, "qxyz");
    }

    private static void nothingOfEarlierTexts() {
        FoldedRows x = new FoldedRows();
        for (int round = 0; round < 3; round++) {
            Due.due("a long text", Due.tell(x, "[ab\n[cd\nef]]\ngh"), 4);
            Due.due("rule(4)", x.rule(4), 2);
            Due.caretIs("a long text", x, 0, 0, 0, 0, 0);
            x.go(3, 1);
            x.shut(1, 1);
            Due.due("a text with a FAULT", Due.tell(x, "[ab\ncd\nef]!"), -20);
            Due.due("another with a FAULT", Due.tell(x, "[ab\ncd"), -16);
            Due.due("a short text", Due.tell(x, "a\n\n"), 3);
            Due.due("rule(4)", x.rule(4), 0);
            Due.lineIs(x, 0, "a");
            Due.lineIs(x, 1, "");
            Due.lineIs(x, 2, "");
            Due.caretIs("a short text", x, 0, 0, 0, 0, 0);
            x.wrap(0, 2);
            x.go(2, 0);
        }
    }
}
