/** Promises 28 to 32: keep, back, sheet, lay, paste. */
public final class SheetTest {
    private static final int MAX = 2147483647;
    private static final int MIN = -2147483648;

    public static void main(String[] args) {
        images();
        imagesAndDone();
        sheet();
        lanes();
        paste();
        pasteFaults();
        pasteFull();
        wrongNumbers();
        Due.end();
    }

    private static void images() {
        FoldedRows x = Due.told("ab\n[cd\nef]");
        x.set(0, 9);
        x.set(1, 3);
        x.set(2, 1);
        x.set(3, 5);
        x.shut(0, 1);
        x.go(1, 1);
        Due.due("keep(0)", x.keep(0), 0);
        Due.due("rule(13)", x.rule(13), 1);
        Due.due("back(1)", x.back(1), FoldedRows.STATE);
        x.shut(0, 0);
        x.go(2, 2);
        x.split();
        x.type('g');
        x.set(0, 20);
        x.set(1, 4);
        x.set(2, 2);
        x.set(3, 2);
        Due.due("keep(1)", x.keep(1), 0);
        Due.due("rule(13)", x.rule(13), 2);
        Due.due("back(0)", x.back(0), 3);
        int[] rules = {3, 6, 2, 1, 1, 1, 9, 3, 1, 5, 0, 0, 0, 2};
        for (int what = 0; what < rules.length; what++) {
            Due.due("back: rule(" + what + ")", x.rule(what), rules[what]);
        }
        Due.caretIs("back", x, 1, 1, 1, 1, 1);
        Due.foldIs("back", x, 0, 1, 2, 1, 0);
        Due.lineIs(x, 2, "ef");
        Due.due("back(1)", x.back(1), 4);
        Due.caretIs("back", x, 3, 1, 1, 3, 1);
        Due.lineIs(x, 3, "g");
        Due.due("rule(6)", x.rule(6), 20);
        // An IMAGE stays as it was kept, whatever comes of that which it gave.
        x.type('h');
        x.unwrap(0);
        Due.due("back(1) again", x.back(1), 4);
        Due.lineIs(x, 3, "g");
        Due.due("rule(4)", x.rule(4), 1);
        x.type('k');
        Due.due("keep(0) again", x.keep(0), 1);
        x.erase();
        Due.due("back(0)", x.back(0), 4);
        Due.lineIs(x, 3, "gk");
    }

    private static void imagesAndDone() {
        FoldedRows x = Due.told("abc");
        x.type('x');
        x.type('y');
        x.undo();
        x.keep(1);
        Due.due("DONE stay by keep()", x.rule(10), 1);
        Due.due("UNDONE stay by keep()", x.rule(11), 1);
        Due.due("back(1)", x.back(1), 1);
        Due.due("none are DONE", x.rule(10), 0);
        Due.due("none are UNDONE", x.rule(11), 0);
        Due.due("undo()", x.undo(), FoldedRows.STATE);
        Due.due("redo()", x.redo(), FoldedRows.STATE);
        // GOAL is no part of an IMAGE.
        x = Due.told("abcd\ne");
        x.go(0, 4);
        x.down(1);
        Due.caretIs("down", x, 1, 1, 4, 1, 1);
        x.keep(0);
        x.back(0);
        Due.caretIs("back", x, 1, 1, 1, 1, 1);
    }

    private static void sheet() {
        FoldedRows x = new FoldedRows();
        Due.due("lay() of nothing", x.lay(0, 0, 1), -11);
        Due.due("lay() of nothing, a wrong INDEX", x.lay(0, -1, 1), -11);
        Due.due("sheet(0, 0, 20)", x.sheet(0, 0, 20), 1);
        Due.due("sheet(0, 0, 21)", x.sheet(0, 0, 21), FoldedRows.BAD);
        Due.due("sheet(0, 0, MAX)", x.sheet(0, 0, MAX), FoldedRows.BAD);
        Due.due("sheet(0, 0, -1)", x.sheet(0, 0, -1), -14);
        Due.due("sheet(0, 0, MIN)", x.sheet(0, 0, MIN), -14);
        Due.due("sheet(0, 4, -1)", x.sheet(0, 4, -1), FoldedRows.BAD);
        Due.due("sheet(4, 0, -1)", x.sheet(4, 0, -1), FoldedRows.BAD);
        Due.due("lay(0, 19, 'a')", x.lay(0, 19, 'a'), 1);
        Due.due("lay(0, 20, 'a')", x.lay(0, 20, 'a'), -13);
        Due.due("lay(0, -1, 'a')", x.lay(0, -1, 'a'), -13);
        Due.due("lay(0, MAX, 'a')", x.lay(0, MAX, 'a'), -13);
        Due.due("lay(0, MIN, 'a')", x.lay(0, MIN, 'a'), -13);
        Due.due("paste of the last CELL", x.paste(0, 0, 19, 1), 1);
        Due.due("paste of a 0", x.paste(0, 0, 18, 1), -20);
        Due.due("what is refused leaves the SHEET", x.sheet(0, 1, -5), -14);
        Due.due("paste of the last CELL", x.paste(0, 0, 19, 1), 2);
        Due.due("a new row", x.sheet(0, 0, 20), 1);
        Due.due("paste of a 0", x.paste(0, 0, 19, 1), -20);
        x.lay(0, 0, 'a');
        x.sheet(0, 0, 20);
        Due.due("paste of a 0 ahead", x.paste(0, 0, 0, 1), -20);
        Due.due("a row of none", x.sheet(0, 2, 0), 1);
        Due.due("lay(0, 0, 1)", x.lay(0, 0, 1), -13);
        Due.due("paste(0, 2, 0, 1)", x.paste(0, 2, 0, 1), -13);
        Due.due("paste(1, 2, 0, 1)", x.paste(1, 2, 0, 1), -11);
    }

    private static void lanes() {
        FoldedRows x = new FoldedRows();
        for (int lane = 0; lane < 4; lane++) {
            x.sheet(lane, lane, 3);
            Due.due("lay, a SIGN", x.lay(lane, 0, 'a'), 1);
            Due.due("lay, more bits than a byte's", x.lay(lane, 1, 'b' + 256), 1);
            Due.due("lay, more bits than a short's", x.lay(lane, 2, 'c' - 65536), 1);
        }
        int signs = 0;
        int[][] want = {{1, 1, 1}, {1, -20, 1}, {1, -20, 1}, {1, -20, -20}};
        for (int lane = 0; lane < 4; lane++) {
            for (int i = 0; i < 3; i++) {
                signs += want[lane][i] == 1 ? 1 : 0;
                Due.due("paste of CELL " + i + " of lane " + lane, x.paste(lane, lane, i, 1), want[lane][i] == 1 ? signs : -20);
            }
            for (int other = 0; other < 4; other++) {
                if (other != lane) {
                    Due.due("CAST", x.paste(lane, other, 0, 1), -12);
                    Due.due("CAST ahead of INDEX", x.paste(lane, other, 7, 1), -12);
                }
            }
        }
        Due.lineIs(x, 0, "abcacaca");
        // Of a byte with a sign 225 is -31, of a char it is 225: no SIGNS both.
        x.lay(0, 0, 225);
        Due.due("paste", x.paste(0, 0, 0, 1), -20);
    }

    private static void paste() {
        FoldedRows x = Due.told("ad\nz");
        x.sheet(2, 3, 5);
        int[] cells = {'x', 'b', 'C', 9, '~'};
        for (int i = 0; i < 5; i++) {
            x.lay(2, i, cells[i]);
        }
        x.go(0, 1);
        Due.due("paste(2, 3, 1, 3)", x.paste(2, 3, 1, 3), 5);
        Due.lineIs(x, 0, "abC\td");
        Due.caretIs("paste", x, 0, 4, 8, 0, 8);
        Due.due("one EDIT", x.rule(10), 1);
        Due.due("paste(2, 3, 4, 1)", x.paste(2, 3, 4, 1), 6);
        Due.due("undo()", x.undo(), 1);
        Due.due("paste(2, 3, 0, 5)", x.paste(2, 3, 0, 5), 10);
        Due.due("none are UNDONE", x.rule(11), 0);
        x.undo();
        Due.due("undo()", x.undo(), 0);
        Due.lineIs(x, 0, "ad");
        Due.lineIs(x, 1, "z");
        Due.caretIs("undo", x, 0, 1, 1, 0, 1);
        // Ahead of a mark that begins the LINE: CARET goes to the next STOP.
        x = Due.told("~a");
        x.sheet(0, 1, 2);
        x.lay(0, 0, 'p');
        x.lay(0, 1, 'q');
        Due.due("paste(0, 1, 0, 2)", x.paste(0, 1, 0, 2), 4);
        Due.caretIs("at the next STOP", x, 0, 3, 2, 0, 2);
    }

    private static void pasteFaults() {
        FoldedRows x = Due.told("ab");
        Due.due("NULL", x.paste(1, 1, 9, 1), -11);
        x.sheet(1, 1, 4);
        x.lay(1, 0, 'a');
        x.lay(1, 1, 'b');
        x.lay(1, 3, 'c');
        Due.due("CAST", x.paste(1, 2, -1, 1), -12);
        Due.due("INDEX", x.paste(1, 1, -1, 3), -13);
        Due.due("INDEX", x.paste(1, 1, 4, 1), -13);
        Due.due("INDEX", x.paste(1, 1, MAX, 20), -13);
        Due.due("INDEX", x.paste(1, 1, MIN, 20), -13);
        Due.due("INDEX behind a SIGN", x.paste(1, 1, 3, 2), -13);
        Due.due("the third is no SIGN", x.paste(1, 1, 0, 20), -22);
        Due.due("the second is no SIGN", x.paste(1, 1, 1, 2), -21);
        Due.due("the first is no SIGN", x.paste(1, 1, 2, 20), -20);
        Due.lineIs(x, 0, "ab");
        Due.caretIs("refused", x, 0, 0, 0, 0, 0);
        Due.due("rule(10)", x.rule(10), 0);
        int[] none = {10, 91, 93, 0, 33, 46, 64, 96, 123, 127, 128, 65535};
        for (int c : none) {
            x.lay(1, 0, c);
            Due.due("paste of " + c, x.paste(1, 1, 0, 1), -20);
        }
        Due.due("n 2", x.paste(1, 1, 1, 1), 3);
    }

    private static void pasteFull() {
        FoldedRows x = new FoldedRows();
        x.sheet(0, 0, 20);
        for (int i = 0; i < 20; i++) {
            x.lay(0, i, 'a' + i);
        }
        Due.due("20", x.paste(0, 0, 0, 20), 20);
        Due.due("39", x.paste(0, 0, 0, 19), 39);
        Due.due("41", x.paste(0, 0, 0, 2), FoldedRows.FULL);
        Due.due("41 and no SHEET", x.paste(1, 0, 0, 2), -11);
        Due.due("41 and INDEX", x.paste(0, 0, 19, 2), -13);
        x.lay(0, 1, 0);
        Due.due("41 and no SIGN", x.paste(0, 0, 0, 2), -21);
        Due.due("rule(10)", x.rule(10), 2);
        Due.due("40", x.paste(0, 0, 5, 1), 40);
        Due.due("41", x.paste(0, 0, 5, 1), FoldedRows.FULL);
        Due.lineIs(x, 0, "abcdefghijklmnopqrstabcdefghijklmnopqrsf");
    }

    private static void wrongNumbers() {
        FoldedRows x = Due.told("ab");
        x.sheet(0, 0, 3);
        x.lay(0, 0, 'a');
        int[] beyond = {-1, 4, MAX, MIN};
        for (int v : beyond) {
            Due.due("keep(" + v + ")", x.keep(v), -1);
            Due.due("back(" + v + ")", x.back(v), -1);
            Due.due("sheet(" + v + ", 0, 1)", x.sheet(v, 0, 1), -1);
            Due.due("sheet(0, " + v + ", 1)", x.sheet(0, v, 1), -1);
            Due.due("lay(" + v + ", 0, 0)", x.lay(v, 0, 0), -1);
            Due.due("paste(" + v + ", 0, 0, 1)", x.paste(v, 0, 0, 1), -1);
            Due.due("paste(0, " + v + ", 0, 1)", x.paste(0, v, 0, 1), -1);
        }
        Due.due("keep(2)", x.keep(2), -1);
        Due.due("back(2)", x.back(2), -1);
        int[] counts = {0, -1, 21, MAX, MIN};
        for (int n : counts) {
            Due.due("paste of " + n, x.paste(0, 0, 0, n), -1);
            Due.due("paste of " + n + ", no SHEET", x.paste(3, 0, 0, n), -1);
        }
        Due.due("rule(13)", x.rule(13), 0);
        Due.due("paste(0, 0, 0, 1)", x.paste(0, 0, 0, 1), 3);
    }
}
