import java.util.ArrayList;
import java.util.List;

/**
 * The document once more, written apart from FoldedRows and as near to its words as can be: texts
 * as strings, nothing kept that can be found anew. ModelTest holds the two against each other.
 */
final class Model {
    static final int BAD = -1, STATE = -2, FULL = -3, NONE = -4;

    private static final class Fold {
        final int a, b;
        final boolean shut;
        Fold(int a, int b, boolean shut) { this.a = a; this.b = b; this.shut = shut; }
        boolean holds(int l) { return a <= l && l <= b; }
        boolean sameAs(Fold o) { return a == o.a && b == o.b; }
        boolean crosses(Fold o) {
            boolean shared = false, mine = false, theirs = false;
            for (int l = 0; l < 20; l++) {
                if (holds(l) && o.holds(l)) shared = true;
                if (holds(l) && !o.holds(l)) mine = true;
                if (!holds(l) && o.holds(l)) theirs = true;
            }
            return shared && mine && theirs;
        }
    }

    private static final class All {
        List<String> lines = new ArrayList<>(List.of(""));
        List<Fold> folds = new ArrayList<>();
        int l, p;
        All copy() {
            All c = new All();
            c.lines = new ArrayList<>(lines);
            c.folds = new ArrayList<>(folds);
            c.l = l;
            c.p = p;
            return c;
        }
        boolean hidden(int line) {
            for (Fold f : folds) if (f.shut && line > f.a && line <= f.b) return true;
            return false;
        }
        boolean clash(Fold f) {
            for (Fold o : folds) if (o.sameAs(f) || o.crosses(f)) return true;
            return false;
        }
        void sort() {
            folds.sort((x, y) -> x.a != y.a ? Integer.compare(x.a, y.a) : Integer.compare(y.b, x.b));
        }
    }

    /** A LINE laid: of each SIGN its row, column, cells (0: it hangs or is a mark), whether it hangs. */
    private static final class Laid {
        String s;
        int indent;
        List<Integer> starts = new ArrayList<>();
        int[] row, col, cells;
        boolean[] hang;
        int rows() { return starts.size(); }
        int startColumn(int r) { return r == 0 ? 0 : indent; }
        int behind(int r) { return r + 1 < rows() ? starts.get(r + 1) : s.length(); }
        int rowOf(int p) { return p == s.length() ? rows() - 1 : row[p]; }
        int columnOf(int p) {
            int r = rowOf(p), c = startColumn(r);
            for (int i = starts.get(r); i < p; i++) c += cells[i];
            return c;
        }
        boolean stop(int p) { return p == 0 || p == s.length() || s.charAt(p) != '~' && !hang[p]; }
        List<Integer> stopsOf(int r) {
            List<Integer> out = new ArrayList<>();
            for (int p = 0; p <= s.length(); p++) if (stop(p) && rowOf(p) == r) out.add(p);
            return out;
        }
    }

    private All all = new All();
    private int goal, fault;
    private final int[] rules = {20, 4, 2, 2};
    private String tape = "";
    private List<All> done = new ArrayList<>(), undone = new ArrayList<>();
    private final All[] images = new All[2];
    private final int[][] imageRules = new int[2][];
    private final Object[] sheets = new Object[4];

    // ---- laying

    static boolean sign(int c) {
        return c >= 0 && c < 128 && "abcdefghijklmnopqrstuvwxyzABCDEFGHIJKLMNOPQRSTUVWXYZ -\t~".indexOf(c) >= 0;
    }

    static boolean wide(char c) { return Character.isUpperCase(c); }

    static boolean breaks(String s, int p) {
        if (p == 0 || p == s.length() || s.charAt(p) == '~') return false;
        if (wide(s.charAt(p))) return true;
        String ahead = s.substring(0, p).replace("~", "");
        return !ahead.isEmpty() && (" \t-".indexOf(ahead.charAt(ahead.length() - 1)) >= 0 || wide(ahead.charAt(ahead.length() - 1)));
    }

    private Laid laid(int line) {
        Laid out = new Laid();
        String s = all.lines.get(line);
        int width = rules[0], tabs = rules[1], mode = rules[2], n = s.length();
        out.s = s;
        out.row = new int[n];
        out.col = new int[n];
        out.cells = new int[n];
        out.hang = new boolean[n];
        int lead = 0;
        for (int i = 0; i < n && (s.charAt(i) == ' ' || s.charAt(i) == '\t'); i++) {
            lead = s.charAt(i) == ' ' ? lead + 1 : (lead / tabs + 1) * tabs;
        }
        out.indent = mode == 0 ? 0 : Math.min(lead + rules[3], width / 2);
        out.starts.add(0);
        int c = 0;
        for (int i = 0; i < n; ) {
            char x = s.charAt(i);
            int cells = wide(x) ? 2 : x == '~' ? (i == 0 ? 1 : 0) : x == '\t' ? (c / tabs + 1) * tabs - c : 1;
            boolean hang = false;
            if (mode != 0) {
                boolean fits = x == '\t' ? c < width : c + cells <= width;
                if (x == '\t' && c + cells > width) cells = width - c;
                if (!fits && (x == ' ' || x == '\t')) {
                    hang = true;
                    cells = 0;
                } else if (!fits) {
                    int end = i;
                    if (mode == 2) {
                        for (int b = out.starts.get(out.rows() - 1) + 1; b <= i; b++) if (breaks(s, b)) end = b;
                    }
                    out.starts.add(end);
                    c = out.indent;
                    i = end;
                    continue;
                }
            }
            out.row[i] = out.rows() - 1;
            out.cells[i] = cells;
            out.hang[i] = hang;
            c += cells;
            i++;
        }
        return out;
    }

    /** The ROWS of the screen, each as {LINE, its number among those of the LINE}. */
    private List<int[]> screen() {
        List<int[]> out = new ArrayList<>();
        for (int l = 0; l < all.lines.size(); l++) {
            if (all.hidden(l)) continue;
            int n = laid(l).rows();
            for (int r = 0; r < n; r++) out.add(new int[] {l, r});
        }
        return out;
    }

    private int screenRow(int l, int p) {
        int r = laid(l).rowOf(p);
        List<int[]> rows = screen();
        for (int k = 0; k < rows.size(); k++) if (rows.get(k)[0] == l && rows.get(k)[1] == r) return k;
        return NONE;
    }

    private boolean hasLine(int l) { return l >= 0 && l < all.lines.size(); }

    private boolean hasPlace(int l, int i) { return hasLine(l) && i >= 0 && i <= all.lines.get(l).length(); }

    // ---- the text

    int feed(int c) {
        if (c < 0 || c > 127) return BAD;
        if (tape.length() == 400) return FULL;
        tape += (char) c;
        return tape.length();
    }

    int end(int n) {
        if (n < 0 || n > tape.length()) return BAD;
        int had = tape.length();
        tape = tape.substring(0, n);
        return had;
    }

    int text() {
        String t = tape;
        tape = "";
        All told = new All();
        List<Integer> begun = new ArrayList<>();
        int begins = 0;
        for (int k = 0; k < t.length(); k++) {
            char c = t.charAt(k);
            int last = told.lines.size() - 1;
            int found = 0;
            if (c == '\n') {
                if (told.lines.size() == 12) found = 3;
                else told.lines.add("");
            } else if (c == '[') {
                if (++begins == 9) found = 4;
                else begun.add(last);
            } else if (c == ']') {
                if (begun.isEmpty()) found = 5;
                else {
                    Fold f = new Fold(begun.remove(begun.size() - 1), last, false);
                    if (f.a == f.b || told.clash(f)) found = 5;
                    else told.folds.add(f);
                }
            } else if (!sign(c)) found = 1;
            else if (told.lines.get(last).length() == 40) found = 2;
            else told.lines.set(last, told.lines.get(last) + c);
            if (found != 0) {
                fault = found;
                return -10 - k;
            }
        }
        fault = begun.isEmpty() ? 0 : 6;
        if (fault != 0) return -10 - t.length();
        told.sort();
        all = told;
        goal = 0;
        done.clear();
        undone.clear();
        images[0] = null;
        images[1] = null;
        return all.lines.size();
    }

    int fault() { return fault; }

    // ---- what there is

    int rule(int what) {
        int n = 0;
        switch (what) {
            case 0: return all.lines.size();
            case 1: return String.join("", all.lines).length();
            case 2: return screen().size();
            case 3: for (int l = 0; l < all.lines.size(); l++) n += all.hidden(l) ? 1 : 0; return n;
            case 4: return all.folds.size();
            case 5: for (Fold f : all.folds) n += f.shut ? 1 : 0; return n;
            case 6: case 7: case 8: case 9: return rules[what - 6];
            case 10: return done.size();
            case 11: return undone.size();
            case 12: return tape.length();
            case 13: return (images[0] == null ? 0 : 1) + (images[1] == null ? 0 : 1);
            default: return BAD;
        }
    }

    int sign(int l, int i) {
        if (!hasLine(l) || i < 0) return BAD;
        return i < all.lines.get(l).length() ? all.lines.get(l).charAt(i) : NONE;
    }

    int line(int l, int what) {
        if (!hasLine(l) || what < 0 || what > 6) return BAD;
        Laid laid = laid(l);
        int n = laid.s.length(), count = 0;
        switch (what) {
            case 0: return n;
            case 1: return laid.rows();
            case 2: return all.hidden(l) ? NONE : screenRow(l, 0);
            case 3: return laid.indent;
            case 4: for (int p = 0; p <= n; p++) count += laid.stop(p) ? 1 : 0; return count;
            case 5: for (int p = 0; p <= n; p++) count += breaks(laid.s, p) ? 1 : 0; return count;
            default: for (int p = 0; p < n; p++) count += laid.hang[p] ? 1 : 0; return count;
        }
    }

    int row(int r, int what) {
        List<int[]> rows = screen();
        if (r < 0 || r >= rows.size() || what < 0 || what > 4) return BAD;
        Laid laid = laid(rows.get(r)[0]);
        int own = rows.get(r)[1];
        int from = laid.starts.get(own), upTo = laid.behind(own);
        int sum = laid.startColumn(own);
        for (int i = from; i < upTo; i++) sum += laid.cells[i];
        return new int[] {rows.get(r)[0], from, upTo, laid.startColumn(own), sum}[what];
    }

    int cell(int r, int c) {
        List<int[]> rows = screen();
        if (r < 0 || r >= rows.size() || c < 0) return BAD;
        Laid laid = laid(rows.get(r)[0]);
        for (int i = 0; i < laid.s.length(); i++) {
            if (laid.row[i] != rows.get(r)[1]) continue;
            for (int k = 0; k < laid.cells[i]; k++) if (laid.columnOf(i) + k == c) return i;
        }
        return NONE;
    }

    int at(int l, int i, int what) {
        if (!hasPlace(l, i) || what < 0 || what > 3) return BAD;
        Laid laid = laid(l);
        if (what == 0) return all.hidden(l) ? NONE : screenRow(l, i);
        if (what == 1) return laid.columnOf(i);
        return (what == 2 ? laid.stop(i) : breaks(laid.s, i)) ? 1 : 0;
    }

    private int placeOf(int r, int c) {
        int[] at = screen().get(r);
        Laid laid = laid(at[0]);
        List<Integer> stops = laid.stopsOf(at[1]);
        int found = stops.get(0);
        for (int p : stops) if (laid.columnOf(p) <= c) found = p;
        return found;
    }

    int to(int r, int c) {
        if (r < 0 || r >= screen().size() || c < 0) return BAD;
        return placeOf(r, c);
    }

    int fold(int k, int what) {
        if (k < 0 || k >= all.folds.size() || what < 0 || what > 3) return BAD;
        Fold f = all.folds.get(k);
        int in = -1;
        for (Fold o : all.folds) if (o.a <= f.a && f.b <= o.b) in++;
        return new int[] {f.a, f.b, f.shut ? 1 : 0, in}[what];
    }

    int caret(int what) {
        if (what < 0 || what > 4) return BAD;
        return new int[] {all.l, all.p, goal, screenRow(all.l, all.p), laid(all.l).columnOf(all.p)}[what];
    }

    // ---- the caret goes

    private void moved(int l, int p) {
        all.l = l;
        all.p = p;
        goal = laid(l).columnOf(p);
    }

    int go(int l, int i) {
        if (!hasPlace(l, i)) return BAD;
        if (all.hidden(l) || !laid(l).stop(i)) return STATE;
        moved(l, i);
        return screenRow(l, i);
    }

    int step(int by) {
        if (by != 0 && by != 1) return BAD;
        int d = by == 0 ? -1 : 1;
        int n = all.lines.get(all.l).length();
        for (int p = all.p + d; p >= 0 && p <= n; p += d) {
            if (laid(all.l).stop(p)) {
                moved(all.l, p);
                return p;
            }
        }
        for (int l = all.l + d; hasLine(l); l += d) {
            if (all.hidden(l)) continue;
            moved(l, by == 1 ? 0 : all.lines.get(l).length());
            return all.p;
        }
        return NONE;
    }

    int down(int n) {
        long r = (long) screenRow(all.l, all.p) + n;
        if (r > 2147483647L) return FULL;
        int last = screen().size() - 1;
        int to = r < 0 ? 0 : r > last ? last : (int) r;
        int p = placeOf(to, goal);
        all.l = screen().get(to)[0];
        all.p = p;
        return to;
    }

    int edge(int what) {
        if (what != 0 && what != 1) return BAD;
        Laid laid = laid(all.l);
        List<Integer> stops = laid.stopsOf(laid.rowOf(all.p));
        moved(all.l, stops.get(what == 0 ? 0 : stops.size() - 1));
        return all.p;
    }

    // ---- edits

    private void begin() {
        done.add(all.copy());
        if (done.size() > 16) done.remove(0);
        undone.clear();
    }

    private void laidAnew() {
        while (!laid(all.l).stop(all.p)) all.p++;
        goal = laid(all.l).columnOf(all.p);
    }

    private int put(String signs) {
        String s = all.lines.get(all.l);
        if (s.length() + signs.length() > 40) return FULL;
        begin();
        all.lines.set(all.l, s.substring(0, all.p) + signs + s.substring(all.p));
        all.p += signs.length();
        laidAnew();
        return all.lines.get(all.l).length();
    }

    int type(int c) { return sign(c) ? put("" + (char) c) : BAD; }

    int erase() {
        String s = all.lines.get(all.l);
        if (all.p > 0) {
            int from = all.p - 1;
            while (!laid(all.l).stop(from)) from--;
            int gone = all.p - from;
            begin();
            all.lines.set(all.l, s.substring(0, from) + s.substring(all.p));
            all.p = from;
            laidAnew();
            return gone;
        }
        int l = all.l - 1;
        if (l < 0) return NONE;
        if (all.hidden(l)) return STATE;
        String ahead = all.lines.get(l);
        if (ahead.length() + s.length() > 40) return FULL;
        begin();
        all.lines.set(l, ahead + s);
        all.lines.remove(l + 1);
        List<Fold> old = all.folds;
        all.folds = new ArrayList<>();
        for (Fold f : old) {
            Fold now = new Fold(f.a > l ? f.a - 1 : f.a, f.b > l ? f.b - 1 : f.b, f.shut);
            if (now.b - now.a >= 1 && !all.clash(now)) all.folds.add(now);
        }
        all.sort();
        all.l = l;
        all.p = ahead.length();
        laidAnew();
        return 0;
    }

    int split() {
        for (Fold f : all.folds) if (f.shut && f.a == all.l) return STATE;
        if (all.lines.size() == 12) return FULL;
        begin();
        int l = all.l;
        String s = all.lines.get(l);
        all.lines.set(l, s.substring(0, all.p));
        all.lines.add(l + 1, s.substring(all.p));
        List<Fold> old = all.folds;
        all.folds = new ArrayList<>();
        for (Fold f : old) all.folds.add(new Fold(f.a > l ? f.a + 1 : f.a, f.b >= l ? f.b + 1 : f.b, f.shut));
        all.sort();
        all.l = l + 1;
        all.p = 0;
        laidAnew();
        return all.lines.size();
    }

    int undo() {
        if (done.isEmpty()) return STATE;
        undone.add(all);
        all = done.remove(done.size() - 1);
        laidAnew();
        return done.size();
    }

    int redo() {
        if (undone.isEmpty()) return STATE;
        done.add(all);
        all = undone.remove(undone.size() - 1);
        laidAnew();
        return undone.size();
    }

    // ---- folds, settings

    int wrap(int a, int b) {
        if (!hasLine(a) || !hasLine(b) || b <= a) return BAD;
        Fold f = new Fold(a, b, false);
        if (all.clash(f)) return STATE;
        if (all.folds.size() == 8) return FULL;
        all.folds.add(f);
        all.sort();
        return all.folds.indexOf(f);
    }

    int shut(int k, int v) {
        if (k < 0 || k >= all.folds.size() || v < 0 || v > 1) return BAD;
        Fold f = all.folds.get(k);
        all.folds.set(k, new Fold(f.a, f.b, v == 1));
        if (all.hidden(all.l)) moved(f.a, 0);
        return f.shut ? 1 : 0;
    }

    int unwrap(int k) {
        if (k < 0 || k >= all.folds.size()) return BAD;
        all.folds.remove(k);
        return all.folds.size();
    }

    int set(int what, int v) {
        int[] least = {4, 1, 0, 0}, most = {40, 8, 2, 7};
        if (what < 0 || what > 3 || v < least[what] || v > most[what]) return BAD;
        int was = rules[what];
        rules[what] = v;
        laidAnew();
        return was;
    }

    // ---- images, sheets

    int keep(int k) {
        if (k < 0 || k > 1) return BAD;
        int was = images[k] == null ? 0 : 1;
        images[k] = all.copy();
        imageRules[k] = rules.clone();
        return was;
    }

    int back(int k) {
        if (k < 0 || k > 1) return BAD;
        if (images[k] == null) return STATE;
        all = images[k].copy();
        for (int w = 0; w < 4; w++) rules[w] = imageRules[k][w];
        done.clear();
        undone.clear();
        laidAnew();
        return all.lines.size();
    }

    // The sheets are rows of the machine's own here, and the faults are those that it throws.

    int sheet(int k, int lane, int n) {
        if (k < 0 || k > 3 || lane < 0 || lane > 3 || n > 20) return BAD;
        try {
            sheets[k] = lane == 0 ? new byte[n] : lane == 1 ? new char[n] : lane == 2 ? new short[n] : (Object) new int[n];
            return 1;
        } catch (NegativeArraySizeException e) {
            return -14;
        }
    }

    int lay(int k, int i, int v) {
        if (k < 0 || k > 3) return BAD;
        try {
            Object s = sheets[k];
            s.getClass();
            if (s instanceof byte[]) ((byte[]) s)[i] = (byte) v;
            else if (s instanceof char[]) ((char[]) s)[i] = (char) v;
            else if (s instanceof short[]) ((short[]) s)[i] = (short) v;
            else ((int[]) s)[i] = v;
            return 1;
        } catch (NullPointerException e) {
            return -11;
        } catch (ArrayIndexOutOfBoundsException e) {
            return -13;
        }
    }

    int paste(int k, int lane, int f, int n) {
        if (k < 0 || k > 3 || lane < 0 || lane > 3 || n < 1 || n > 20) return BAD;
        String signs = "";
        try {
            for (int i = 0; i < n; i++) {
                Object s = sheets[k];
                s.getClass();
                int v = lane == 0 ? ((byte[]) s)[f + i] : lane == 1 ? ((char[]) s)[f + i] : lane == 2 ? ((short[]) s)[f + i] : ((int[]) s)[f + i];
                if (!sign(v)) return -20 - i;
                signs += (char) v;
            }
        } catch (NullPointerException e) {
            return -11;
        } catch (ClassCastException e) {
            return -12;
        } catch (ArrayIndexOutOfBoundsException e) {
            return -13;
        }
        return put(signs);
    }
}
