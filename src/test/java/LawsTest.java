/**
 * What the document says of all LINES, FOLDS and CARETS, held against what there is: for each short
 * LINE that there can be, and behind runs of calls. Nothing is laid out a second time here; each row,
 * place and stop that is answered is looked at whether it may be so.
 */
public final class LawsTest {
    private static final char[] SIGNS = {'a', 'B', ' ', '-', '\t', '~'};
    private static final int LONGEST = 5;
    private static final int RUNS = 4000;
    private static final int CALLS = 512;

    private static long seed = 77L;

    public static void main(String[] args) {
        shortLines();
        runs();
        Due.end();
    }

    private static int pick(int n) {
        seed = seed * 6364136223846793005L + 1442695040888963407L;
        return (int) ((seed >>> 33) % n);
    }

    private static void shortLines() {
        int[][] settings = {{4, 4, 2, 0}, {4, 3, 2, 2}, {5, 2, 2, 1}, {4, 3, 1, 0}, {5, 4, 1, 1}, {6, 4, 2, 7}, {4, 4, 0, 2}};
        int many = 1;
        for (int n = 0; n <= LONGEST; n++) {
            for (int k = 0; k < many; k++) {
                for (int[] each : settings) shortLine(n, k, each);
            }
            many *= SIGNS.length;
        }
    }

    private static void shortLine(int n, int k, int[] settings) {
        FoldedRows x = new FoldedRows();
        for (int i = 0, rest = k; i < n; i++, rest /= SIGNS.length) x.feed(SIGNS[rest % SIGNS.length]);
        x.text();
        for (int what = 0; what < 4; what++) x.set(what, settings[what]);
        new Laws(x, n + 5).hold();
    }

    private static void runs() {
        for (int run = 0; run < RUNS; run++) {
            FoldedRows x = new FoldedRows();
            x.set(0, 4 + pick(6));
            x.set(1, 1 + pick(8));
            x.set(2, 1 + pick(2));
            x.set(3, pick(8));
            int calls = 4 + pick(90);
            for (int i = 4; i < calls; i++) someCall(x);
            new Laws(x, calls).hold();
        }
    }

    private static void someCall(FoldedRows x) {
        int lines = 1 + pick(6);
        switch (pick(16)) {
            case 0: x.erase(); break;
            case 1: case 2: x.split(); break;
            case 3: x.undo(); break;
            case 4: x.redo(); break;
            case 5: case 6: x.wrap(pick(lines), pick(lines)); break;
            case 7: x.shut(pick(4), pick(2)); break;
            case 8: x.go(pick(lines), pick(4)); break;
            case 9: x.down(pick(9) - 4); break;
            case 10: x.set(pick(4), pick(8)); break;
            case 11: x.step(pick(2)); break;
            default: x.type(SIGNS[pick(SIGNS.length)]); break;
        }
    }

    private static final class Laws {
        private final FoldedRows x;
        private final int width, tabs, mode;
        private int calls;
        private String where = "";

        Laws(FoldedRows x, int calls) {
            this.x = x;
            this.calls = calls + 3;
            width = x.rule(6);
            tabs = x.rule(7);
            mode = x.rule(8);
        }

        void hold() {
            folds();
            int rows = 0, signs = 0, hidden = 0;
            int lines = ask(x.rule(0));
            for (int l = 0; l < lines && calls < CALLS / 2; l++) {
                rows += line(l, rows);
                signs += ask(x.line(l, 0));
                hidden += isHidden(l) ? 1 : 0;
                if (l + 1 < lines) continue;
                law(signs == ask(x.rule(1)), "SIGNS of all");
                law(rows == ask(x.rule(2)), "ROWS of the screen are those of all LINES that are not HIDDEN");
                law(hidden == ask(x.rule(3)), "HIDDEN LINES");
            }
            caret();
            Due.must(calls <= CALLS, calls + " calls on one object");
        }

        private int ask(int answer) {
            calls++;
            return answer;
        }

        private void law(boolean holds, String words) {
            Due.must(holds, words + where);
        }

        private boolean isHidden(int l) {
            for (int k = 0; k < ask(x.rule(4)); k++) {
                if (ask(x.fold(k, 2)) == 1 && ask(x.fold(k, 0)) < l && l <= ask(x.fold(k, 1))) return true;
            }
            return false;
        }

        private void folds() {
            int n = ask(x.rule(4));
            int shut = 0;
            for (int k = 0; k < n; k++) {
                int a = ask(x.fold(k, 0)), b = ask(x.fold(k, 1)), in = 0;
                shut += ask(x.fold(k, 2));
                law(0 <= a && a < b && b < ask(x.rule(0)), "a FIRST LINE, a LAST LINE (greater)");
                for (int j = 0; j < n; j++) {
                    int c = ask(x.fold(j, 0)), d = ask(x.fold(j, 1));
                    if (j == k) continue;
                    law(b < c || d < a || a <= c && d <= b || c <= a && b <= d, "FOLDS never CROSS");
                    law(a != c || b != d, "two of them are never the same");
                    law((j < k) == (c < a || c == a && d > b), "numbered by FIRST, of one FIRST by LAST, the greater first");
                    in += c <= a && b <= d ? 1 : 0;
                }
                law(in == ask(x.fold(k, 3)), "in how many others it is");
            }
            law(shut == ask(x.rule(5)), "SHUT ones");
        }

        /** How many ROWS of the screen it has. */
        private int line(int l, int firstRow) {
            int n = ask(x.line(l, 0));
            StringBuilder signs = new StringBuilder();
            for (int i = 0; i < n; i++) signs.append((char) ask(x.sign(l, i)));
            where = " (LINE " + l + " \"" + signs + "\", WIDTH " + width + ", TABS " + tabs + ", MODE " + mode + ")";
            int rows = ask(x.line(l, 1));
            if (isHidden(l)) {
                law(ask(x.line(l, 2)) == FoldedRows.NONE && ask(x.at(l, n, 0)) == FoldedRows.NONE, "HIDDEN, no ROW");
                return 0;
            }
            law(ask(x.line(l, 2)) == firstRow && rows > 0, "its first ROW");
            law(mode != 0 || rows == 1, "ROWS of a LINE in MODE 0: one");
            law(ask(x.line(l, 3)) == indent(signs), "INDENT");
            int behind = 0, stops = 0, hung = 0;
            for (int r = firstRow; r < firstRow + rows; r++) {
                law(ask(x.row(r, 0)) == l && ask(x.row(r, 1)) == behind, "a ROW begins where the one ahead of it ends");
                law(ask(x.row(r, 3)) == (r == firstRow ? 0 : indent(signs)), "the COLUMN with which a ROW begins");
                behind = ask(x.row(r, 2));
                hung += signsOf(signs, l, r, behind);
                stops += stopsOf(l, r, behind + (behind == n ? 1 : 0));
                rowEnd(signs, l, r, behind);
            }
            law(behind == n, "the last ROW ends behind the last SIGN");
            law(stops == ask(x.line(l, 4)) && hung == ask(x.line(l, 6)), "STOPS, and SIGNS that HANG");
            return rows;
        }

        private int indent(CharSequence signs) {
            int column = 0;
            for (int i = 0; i < signs.length() && (signs.charAt(i) == ' ' || signs.charAt(i) == '\t'); i++) {
                do column++; while (signs.charAt(i) == '\t' && column % tabs != 0);
            }
            return mode == 0 ? 0 : Math.min(column + ask(x.rule(9)), width / 2);
        }

        private int cells(CharSequence signs, int i, int column) {
            char c = signs.charAt(i);
            if (c == '~') return i == 0 ? 1 : 0;
            if (c != '\t') return c >= 'A' && c <= 'Z' ? 2 : 1;
            int cells = 1;
            while ((column + cells) % tabs != 0 && (mode == 0 || column + cells < width)) cells++;
            return cells;
        }

        private boolean fits(CharSequence signs, int i, int column) {
            return mode == 0 || column + cells(signs, i, column) <= width;
        }

        private boolean gap(CharSequence signs, int i) {
            return signs.charAt(i) == ' ' || signs.charAt(i) == '\t';
        }

        private boolean isBreak(CharSequence signs, int place) {
            if (place == 0 || signs.charAt(place) == '~') return false;
            if (signs.charAt(place) == 'B') return true;
            int ahead = place - 1;
            while (ahead >= 0 && signs.charAt(ahead) == '~') ahead--;
            return ahead >= 0 && signs.charAt(ahead) != 'a';
        }

        /** Of a ROW: its SIGNS stand behind one another, each has its CELLS. How many of them HANG. */
        private int signsOf(CharSequence signs, int l, int r, int behind) {
            int column = ask(x.row(r, 3)), hung = 0;
            for (int i = ask(x.row(r, 1)); i < behind; i++) {
                boolean fits = fits(signs, i, column);
                law(fits || gap(signs, i), "of those that do not FIT only BLANKS and TABS come");
                law(ask(x.at(l, i, 0)) == r && ask(x.at(l, i, 1)) == column, "ROW and COLUMN of a PLACE");
                law(ask(x.at(l, i, 2)) == (i == 0 || fits && signs.charAt(i) != '~' ? 1 : 0), "STOPS");
                law(ask(x.at(l, i, 3)) == (isBreak(signs, i) ? 1 : 0), "BREAKS");
                int cells = fits ? cells(signs, i, column) : 0;
                for (int c = column; c < column + cells; c++) law(ask(x.cell(r, c)) == i, "CELLS of a SIGN");
                column += cells;
                hung += fits ? 0 : 1;
            }
            law(ask(x.row(r, 4)) == column && (mode == 0 || column <= width), "the COLUMN behind its last SIGN");
            law(ask(x.cell(r, column)) == FoldedRows.NONE, "no CELLS behind the last SIGN");
            return hung;
        }

        private int stopsOf(int l, int r, int upTo) {
            int latest = -1, stops = 0;
            int first = ask(x.row(r, 1));
            law(ask(x.at(l, first, 2)) == 1, "of a ROW its first PLACE is a STOP");
            law(ask(x.to(r, 0)) == first, "its first STOP, if there is none whose COLUMN is less");
            for (int i = first; i < upTo; i++) {
                if (ask(x.at(l, i, 2)) == 0) continue;
                int column = ask(x.at(l, i, 1));
                law(column > latest, "of a ROW each STOP has a COLUMN of its own");
                law(ask(x.to(r, column)) == i, "the PLACE of a ROW and the COLUMN of a STOP");
                latest = column;
                stops++;
            }
            return stops;
        }

        /** A ROW ends ahead of a SIGN that does not FIT, or at the last BREAK ahead of that. */
        private void rowEnd(CharSequence signs, int l, int r, int behind) {
            int column = ask(x.row(r, 4)), last = 0, i = behind;
            for (; i < signs.length() && (fits(signs, i, column) || gap(signs, i)); i++) {
                column += fits(signs, i, column) ? cells(signs, i, column) : 0;
            }
            law(behind == signs.length() || i < signs.length(), "a ROW ends by a SIGN that does not FIT");
            for (int k = ask(x.row(r, 1)) + 1; k <= i; k++) last = ask(x.at(l, k, 3)) == 1 ? k : last;
            boolean atBreak = mode == 2 && last > 0 && i < signs.length();
            law(behind == (atBreak ? last : i), "a ROW ends at the last BREAK, else ahead of the SIGN");
        }

        private void caret() {
            int l = ask(x.caret(0)), place = ask(x.caret(1));
            where = " (CARET at PLACE " + place + " of LINE " + l + ")";
            law(!isHidden(l) && ask(x.at(l, place, 2)) == 1, "CARET is at a STOP of a LINE that is not HIDDEN");
            law(ask(x.caret(3)) == ask(x.at(l, place, 0)), "the ROW of CARET");
            law(ask(x.caret(4)) == ask(x.at(l, place, 1)), "the COLUMN of CARET");
        }
    }
}
