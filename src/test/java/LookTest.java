/** Promises 6 to 12: rule, sign, line, row, cell, at, to: how LINES are laid and shown. */
public final class LookTest {
    public static void main(String[] args) {
        noBreaks();
        marks();
        bySigns();
        hanging();
        tabsAtTheWidth();
        indents();
        breaks();
        byWords();
        fortySigns();
        fortyMarksAndBlanks();
        screen();
        rowsOfLaterLines();
        wrongNumbers();
        Due.end();
    }

    private static FoldedRows laid(String text, int width, int tabs, int mode, int extra) {
        FoldedRows x = Due.told(text);
        x.set(0, width);
        x.set(1, tabs);
        x.set(2, mode);
        x.set(3, extra);
        return x;
    }

    /** PLACES for which at() tells 1: whether they are STOPS (2), BREAKS (3). */
    private static void placesAre(FoldedRows x, int what, String want) {
        StringBuilder got = new StringBuilder();
        int count = 0;
        for (int i = 0; i <= x.line(0, 0); i++) {
            if (x.at(0, i, what) == 1) {
                got.append(i).append(' ');
                count++;
            }
        }
        if (!got.toString().equals(want)) {
            Due.due("places " + what + " are " + got + "and not " + want, 1, 0);
        }
        Due.due("count of " + what, x.line(0, what + 2), count);
    }

    /** The PLACES with which the ROWS of the first LINE begin. */
    private static void rowsBeginAt(FoldedRows x, int... places) {
        Due.due("line(0, 1)", x.line(0, 1), places.length);
        for (int r = 0; r < places.length; r++) {
            Due.due("row(" + r + ", 1)", x.row(r, 1), places[r]);
            int behind = r + 1 < places.length ? places[r + 1] : x.line(0, 0);
            Due.due("row(" + r + ", 2)", x.row(r, 2), behind);
        }
    }

    private static void columnsAre(FoldedRows x, int... columns) {
        for (int i = 0; i < columns.length; i++) {
            Due.due("at(0, " + i + ", 1)", x.at(0, i, 1), columns[i]);
        }
    }

    private static void cellsAre(FoldedRows x, int r, int... places) {
        for (int c = 0; c < places.length; c++) {
            Due.due("cell(" + r + ", " + c + ")", x.cell(r, c), places[c]);
        }
    }

    private static void noBreaks() {
        FoldedRows x = laid("\tA~b -c", 4, 4, 0, 7);
        columnsAre(x, 0, 4, 6, 6, 7, 8, 9, 10);
        placesAre(x, 2, "0 1 3 4 5 6 7 ");
        cellsAre(x, 0, 0, 0, 0, 0, 1, 1, 3, 4, 5, 6, -4, -4);
        Due.rowIs("no breaks", x, 0, 0, 0, 7, 0, 10);
        Due.due("line(0, 3) in MODE 0", x.line(0, 3), 0);
        Due.due("line(0, 6) in MODE 0", x.line(0, 6), 0);
        columnsAre(laid("abcd\te\tf", 5, 4, 0, 2), 0, 1, 2, 3, 4, 8, 9, 12, 13);
        columnsAre(laid("a\tb\t\t", 5, 1, 0, 2), 0, 1, 2, 3, 4, 5);
        columnsAre(laid("a\tb\t\t", 5, 8, 0, 2), 0, 1, 8, 9, 16, 24);
        rowsBeginAt(laid("abcdefghij      k", 4, 4, 0, 2), 0);
    }

    private static void marks() {
        FoldedRows x = laid("~~a~", 20, 4, 2, 2);
        columnsAre(x, 0, 1, 1, 2, 2);
        placesAre(x, 2, "0 2 4 ");
        cellsAre(x, 0, 0, 2, -4);
        Due.due("to(0, 1)", x.to(0, 1), 2);
        Due.due("to(0, 2)", x.to(0, 2), 4);
        placesAre(laid("~", 4, 4, 1, 2), 2, "0 1 ");
        // A MARK comes into a ROW that is full.
        rowsBeginAt(laid("abcd~~e~", 4, 4, 1, 0), 0, 6);
        rowsBeginAt(laid("abcd~~e~", 4, 4, 2, 0), 0, 6);
        rowsBeginAt(laid("~bcde", 4, 4, 1, 0), 0, 4);
    }

    private static void bySigns() {
        FoldedRows x = laid("abcdefghi", 4, 4, 1, 0);
        rowsBeginAt(x, 0, 4, 8);
        columnsAre(x, 0, 1, 2, 3, 0, 1, 2, 3, 0, 1);
        x.set(3, 7);
        rowsBeginAt(x, 0, 4, 6, 8);
        columnsAre(x, 0, 1, 2, 3, 2, 3, 2, 3, 2, 3);
        Due.rowIs("by signs", x, 1, 0, 4, 6, 2, 4);
        Due.rowIs("by signs", x, 3, 0, 8, 9, 2, 3);
        cellsAre(x, 1, -4, -4, 4, 5, -4);
        Due.due("to(1, 0)", x.to(1, 0), 4);
        Due.due("to(1, 2)", x.to(1, 2), 4);
        Due.due("to(1, 3)", x.to(1, 3), 5);
        Due.due("to(1, 4)", x.to(1, 4), 5);
        Due.due("to(3, 4)", x.to(3, 4), 9);
        // A WIDE one with one CELL left comes into the next ROW.
        x = laid("abcDe f", 4, 4, 1, 0);
        rowsBeginAt(x, 0, 3, 6);
        Due.rowIs("wide", x, 0, 0, 0, 3, 0, 3);
        cellsAre(x, 0, 0, 1, 2, -4);
        cellsAre(x, 1, 3, 3, 4, 5, -4);
        rowsBeginAt(laid("ABCDEF", 4, 4, 1, 7), 0, 2, 3, 4, 5);
    }

    private static void hanging() {
        for (int mode = 1; mode <= 2; mode++) {
            FoldedRows x = laid("abcd  efgh", 4, 4, mode, 0);
            rowsBeginAt(x, 0, 6);
            columnsAre(x, 0, 1, 2, 3, 4, 4, 0, 1, 2, 3, 4);
            placesAre(x, 2, "0 1 2 3 6 7 8 9 10 ");
            Due.due("line(0, 6)", x.line(0, 6), 2);
            Due.rowIs("hanging", x, 0, 0, 0, 6, 0, 4);
            Due.due("at(0, 5, 0)", x.at(0, 5, 0), 0);
            Due.due("at(0, 6, 0)", x.at(0, 6, 0), 1);
            Due.due("to(0, 9)", x.to(0, 9), 3);
            cellsAre(x, 0, 0, 1, 2, 3, -4);
            x = laid("abcd~ ~\t~e", 4, 4, mode, 0);
            rowsBeginAt(x, 0, 9);
            Due.due("line(0, 6) with marks", x.line(0, 6), 2);
            placesAre(x, 2, "0 1 2 3 9 10 ");
            // N is a STOP, whatever hangs ahead of it.
            x = laid("abcd \t", 4, 4, mode, 0);
            rowsBeginAt(x, 0);
            placesAre(x, 2, "0 1 2 3 6 ");
            Due.due("to(0, 4) at a hanging end", x.to(0, 4), 6);
            Due.due("to(0, 3) at a hanging end", x.to(0, 3), 3);
        }
        // BLANKS ahead of all hang, too, as the WIDTH is reached.
        FoldedRows x = laid("      a", 4, 4, 2, 0);
        rowsBeginAt(x, 0, 6);
        Due.rowIs("blanks", x, 1, 0, 6, 7, 2, 3);
        placesAre(x, 2, "0 1 2 3 6 7 ");
    }

    private static void tabsAtTheWidth() {
        FoldedRows x = laid("abcde\tf", 6, 4, 1, 0);
        rowsBeginAt(x, 0, 6);
        columnsAre(x, 0, 1, 2, 3, 4, 5, 0, 1);
        Due.due("a TAB cut off does not hang", x.line(0, 6), 0);
        placesAre(x, 2, "0 1 2 3 4 5 6 7 ");
        x = laid("abcdef\tg", 6, 4, 1, 0);
        rowsBeginAt(x, 0, 7);
        Due.due("a TAB at the WIDTH hangs", x.line(0, 6), 1);
        columnsAre(x, 0, 1, 2, 3, 4, 5, 6, 0, 1);
        // Behind an INDENT a TAB goes by the COLUMN, not by the ROW's begin.
        x = laid("abcdefgh\ti", 8, 4, 1, 3);
        rowsBeginAt(x, 0, 9);
        x = laid("abcdefgha\ti", 8, 4, 1, 2);
        columnsAre(x, 0, 1, 2, 3, 4, 5, 6, 7, 2, 3, 4, 5);
    }

    private static void indents() {
        Due.due("blanks, a tab", laid("  \tab", 20, 4, 2, 1).line(0, 3), 5);
        Due.due("half of 9", laid("  \tab", 9, 4, 2, 1).line(0, 3), 4);
        Due.due("half of 10", laid("  \tab", 10, 4, 1, 1).line(0, 3), 5);
        Due.due("half of 40", laid("\t\t\tb", 40, 8, 2, 7).line(0, 3), 20);
        Due.due("tabs of 3", laid("\t \t a b", 40, 3, 2, 0).line(0, 3), 7);
        Due.due("a TAB as in MODE 0, beyond the WIDTH", laid("\t\ta", 15, 8, 2, 0).line(0, 3), 7);
        Due.due("a mark ends them", laid("~  a", 20, 4, 2, 3).line(0, 3), 3);
        Due.due("blanks alone", laid("   ", 20, 4, 2, 0).line(0, 3), 3);
        Due.due("nothing", laid("", 20, 4, 2, 7).line(0, 3), 7);
        Due.due("nothing, WIDTH 4", laid("", 4, 4, 1, 7).line(0, 3), 2);
        Due.due("MODE 0", laid("  a", 20, 4, 0, 7).line(0, 3), 0);
    }

    private static void breaks() {
        for (int mode = 0; mode <= 2; mode++) {
            placesAre(laid("ab", 20, 4, mode, 2), 3, "");
            placesAre(laid("a b", 20, 4, mode, 2), 3, "2 ");
            placesAre(laid("a  b", 20, 4, mode, 2), 3, "2 3 ");
            placesAre(laid("a\t-b", 20, 4, mode, 2), 3, "2 3 ");
            placesAre(laid(" a ", 20, 4, mode, 2), 3, "1 ");
            placesAre(laid("aBcD", 20, 4, mode, 2), 3, "1 2 3 ");
            placesAre(laid("a-~b~C", 20, 4, mode, 2), 3, "3 5 ");
            placesAre(laid("~b~c", 20, 4, mode, 2), 3, "");
            placesAre(laid("~B~~c", 20, 4, mode, 2), 3, "1 4 ");
            placesAre(laid("a ~", 20, 4, mode, 2), 3, "");
            placesAre(laid("Z", 20, 4, mode, 2), 3, "");
        }
    }

    private static void byWords() {
        rowsBeginAt(laid("a bcdef", 4, 4, 2, 0), 0, 2, 6);
        rowsBeginAt(laid("abcdefgh", 4, 4, 2, 1), 0, 4, 7);
        rowsBeginAt(laid("abcDE", 4, 4, 2, 0), 0, 3);
        rowsBeginAt(laid("ab cdef", 5, 4, 2, 0), 0, 3);
        rowsBeginAt(laid("a-b-cde", 5, 4, 2, 0), 0, 4);
        rowsBeginAt(laid("abAcdef", 5, 4, 2, 0), 0, 3);
        rowsBeginAt(laid("ab~ cd~ef", 5, 4, 2, 0), 0, 4);
        // A ROW may end at a BREAK behind its first SIGN, but not at its first PLACE.
        FoldedRows x = laid(" abcde", 4, 4, 2, 0);
        rowsBeginAt(x, 0, 1, 4);
        columnsAre(x, 0, 1, 2, 3, 1, 2, 3);
        cellsAre(x, 0, 0, -4, -4, -4);
        cellsAre(x, 1, -4, 1, 2, 3, -4);
        x.go(0, 6);
        x.erase();
        x.erase();
        rowsBeginAt(x, 0);
        Due.due("line(0, 4) of a shorter LINE", x.line(0, 4), 5);
        cellsAre(x, 0, 0, 1, 2, 3, -4);
        // The BREAK may be the PLACE of the SIGN that does not fit.
        rowsBeginAt(laid("a cd-ef", 5, 4, 2, 0), 0, 5);
        Due.rowIs("what is ahead of an end stays", laid("ab cdefg", 5, 4, 2, 0), 0, 0, 0, 3, 0, 3);
        x = laid("a\tb cdefg h", 8, 4, 2, 0);
        rowsBeginAt(x, 0, 4);
        columnsAre(x, 0, 1, 4, 5, 0, 1, 2, 3, 4, 5, 6, 7);
    }

    private static void fortySigns() {
        FoldedRows x = laid("ABCDEFGHIJABCDEFGHIJABCDEFGHIJABCDEFGHIJ", 4, 4, 2, 2);
        Due.due("rule(2) of 40 WIDE ones", x.rule(2), 39);
        Due.rowIs("the first", x, 0, 0, 0, 2, 0, 4);
        Due.rowIs("the one ahead of the last", x, 37, 0, 38, 39, 2, 4);
        Due.rowIs("the last", x, 38, 0, 39, 40, 2, 4);
        Due.due("line(0, 4) of 40", x.line(0, 4), 41);
        Due.due("line(0, 5) of 40", x.line(0, 5), 39);
        Due.due("at(0, 39, 3)", x.at(0, 39, 3), 1);
        for (int p = 2; p < 40; p++) {
            Due.due("at(0, " + p + ", 0)", x.at(0, p, 0), p - 1);
            Due.due("at(0, " + p + ", 1)", x.at(0, p, 1), 2);
        }
        Due.due("at(0, 40, 0)", x.at(0, 40, 0), 38);
        Due.due("at(0, 40, 1)", x.at(0, 40, 1), 4);
        Due.due("at(0, 40, 2)", x.at(0, 40, 2), 1);
        cellsAre(x, 38, -4, -4, 39, 39, -4);
        Due.due("to(38, 4)", x.to(38, 4), 40);
    }

    private static void fortyMarksAndBlanks() {
        FoldedRows x = laid("abcd                                    ", 4, 4, 1, 2);
        Due.due("line(0, 6) of 40", x.line(0, 6), 36);
        Due.due("line(0, 4) of 40", x.line(0, 4), 5);
        Due.due("at(0, 39, 2)", x.at(0, 39, 2), 0);
        Due.due("at(0, 40, 2)", x.at(0, 40, 2), 1);
        x.set(2, 0);
        Due.due("line(0, 6), MODE 0", x.line(0, 6), 0);
        Due.rowIs("MODE 0", x, 0, 0, 0, 40, 0, 40);
        cellsAre(x, 0, 0, 1, 2, 3, 4);
        Due.due("cell(0, 39)", x.cell(0, 39), 39);
        Due.due("cell(0, 40)", x.cell(0, 40), -4);
        x = laid("~~~~~~~~~~~~~~~~~~~~~~~~~~~~~~~~~~~~~~~~", 4, 4, 2, 2);
        Due.due("line(0, 1) of marks", x.line(0, 1), 1);
        Due.due("line(0, 4) of marks", x.line(0, 4), 2);
        Due.due("at(0, 40, 1) of marks", x.at(0, 40, 1), 1);
    }

    private static void rowsOfLaterLines() {
        FoldedRows x = laid("abcdef\nghijklmn\nop", 4, 4, 1, 0);
        cellsAre(x, 2, 0, 1, 2, 3, -4);
        cellsAre(x, 3, 4, 5, 6, 7, -4);
        cellsAre(x, 4, 0, 1, -4);
        Due.due("to(2, 1)", x.to(2, 1), 1);
        Due.due("to(2, 9)", x.to(2, 9), 3);
        Due.due("to(3, 1)", x.to(3, 1), 5);
        Due.due("to(3, 9)", x.to(3, 9), 8);
        Due.due("to(4, 1)", x.to(4, 1), 1);
        Due.due("to(4, 9)", x.to(4, 9), 2);
    }

    private static void screen() {
        FoldedRows x = laid("abcdef\n[gh\n[ijklmn\nop]\n\n]qrstuv", 4, 4, 1, 0);
        Due.due("rule(2)", x.rule(2), 9);
        Due.rowIs("all", x, 4, 2, 4, 6, 0, 2);
        Due.rowIs("all", x, 6, 4, 0, 0, 0, 0);
        Due.due("at(5, 6, 0)", x.at(5, 6, 0), 8);
        x.shut(1, 1);
        Due.due("rule(2), one LINE HIDDEN", x.rule(2), 8);
        Due.due("rule(3)", x.rule(3), 1);
        Due.due("rule(5)", x.rule(5), 1);
        Due.due("line(3, 2)", x.line(3, 2), FoldedRows.NONE);
        Due.due("line(2, 2)", x.line(2, 2), 3);
        Due.due("line(4, 2)", x.line(4, 2), 5);
        x.shut(0, 1);
        Due.due("rule(2), more HIDDEN", x.rule(2), 3);
        Due.due("rule(3)", x.rule(3), 4);
        Due.due("line(2, 1) of a HIDDEN one", x.line(2, 1), 2);
        Due.due("line(2, 2)", x.line(2, 2), FoldedRows.NONE);
        Due.due("line(5, 2)", x.line(5, 2), FoldedRows.NONE);
        Due.due("at(2, 5, 0)", x.at(2, 5, 0), FoldedRows.NONE);
        Due.due("at(2, 5, 1)", x.at(2, 5, 1), 1);
        Due.due("at(2, 5, 2)", x.at(2, 5, 2), 1);
        Due.due("row(2, 0)", x.row(2, 0), 1);
        Due.due("row(3, 0)", x.row(3, 0), FoldedRows.BAD);
        x.shut(0, 0);
        Due.due("the inner one is SHUT still", x.rule(3), 1);
    }

    private static void wrongNumbers() {
        FoldedRows x = laid("abcdef\ng", 4, 4, 1, 0);
        int max = 2147483647;
        int min = -2147483648;
        int[] beyond = {-1, max, min};
        for (int v : beyond) {
            Due.due("rule(" + v + ")", x.rule(v), -1);
            Due.due("sign(" + v + ", 0)", x.sign(v, 0), -1);
            Due.due("line(" + v + ", 0)", x.line(v, 0), -1);
            Due.due("line(0, " + v + ")", x.line(0, v), -1);
            Due.due("row(" + v + ", 0)", x.row(v, 0), -1);
            Due.due("row(0, " + v + ")", x.row(0, v), -1);
            Due.due("cell(" + v + ", 0)", x.cell(v, 0), -1);
            Due.due("at(" + v + ", 0, 0)", x.at(v, 0, 0), -1);
            Due.due("at(0, " + v + ", 0)", x.at(0, v, 0), -1);
            Due.due("at(0, 0, " + v + ")", x.at(0, 0, v), -1);
            Due.due("to(" + v + ", 0)", x.to(v, 0), -1);
            Due.due("sign(0, " + v + ")", x.sign(0, v), v > 0 ? -4 : -1);
            Due.due("cell(0, " + v + ")", x.cell(0, v), v > 0 ? -4 : -1);
            Due.due("to(0, " + v + ")", x.to(0, v), v > 0 ? 3 : -1);
        }
        Due.due("rule(14)", x.rule(14), -1);
        Due.due("sign(2, 0)", x.sign(2, 0), -1);
        Due.due("sign(2, -1)", x.sign(2, -1), -1);
        Due.due("sign(1, 0)", x.sign(1, 0), 'g');
        Due.due("sign(1, 1)", x.sign(1, 1), -4);
        Due.due("line(2, 0)", x.line(2, 0), -1);
        Due.due("line(0, 7)", x.line(0, 7), -1);
        Due.due("row(3, 0)", x.row(3, 0), -1);
        Due.due("row(0, 5)", x.row(0, 5), -1);
        Due.due("cell(3, 0)", x.cell(3, 0), -1);
        Due.due("at(2, 0, 0)", x.at(2, 0, 0), -1);
        Due.due("at(1, 2, 0)", x.at(1, 2, 0), -1);
        Due.due("at(1, 1, 4)", x.at(1, 1, 4), -1);
        Due.due("at(1, 1, 0)", x.at(1, 1, 0), 2);
        Due.due("to(3, 0)", x.to(3, 0), -1);
        Due.due("rule(0)", x.rule(0), 2);
        Due.due("rule(1)", x.rule(1), 7);
    }
}
