/** Runs of calls, made by a counter and no clock: FoldedRows and Model must always answer the same. */
public final class ModelTest {
    private static final int RUNS = 20000;
    /** The document promises nothing behind that many. */
    private static final int CALLS = 512;

    private static final String[] NAMES = {
        "feed", "end", "text", "fault", "rule", "sign", "line", "row", "cell", "at", "to", "fold", "caret",
        "go", "step", "down", "edge", "type", "erase", "split", "undo", "redo",
        "wrap", "shut", "unwrap", "set", "keep", "back", "sheet", "lay", "paste"};
    private static final String[] ALPHABETS = {
        "abcAB \t-~", "ab  \t", "a~", "aAbB~", "ab- ", "abcdefgh", " \t~a", "~", "xY \t-~xxxx"};

    private static long seed = 20260101L;

    private static int pick(int n) {
        seed = seed * 6364136223846793005L + 1442695040888963407L;
        return (int) ((seed >>> 33) % n);
    }

    private static int between(int a, int b) { return a + pick(b - a + 1); }

    public static void main(String[] args) {
        int wrong = 0;
        long calls = 0;
        for (int run = 0; run < RUNS && wrong < 5; run++) {
            Run r = new Run();
            if (!r.go()) {
                wrong++;
                System.out.println("run " + run + ":" + r.told);
            }
            calls += r.calls;
        }
        System.out.println(wrong == 0 ? calls + " calls answered as the model does" : "the model answers otherwise");
        if (wrong != 0) System.exit(1);
    }

    private static final class Run {
        final FoldedRows x = new FoldedRows();
        final Model y = new Model();
        final String alphabet = ALPHABETS[pick(ALPHABETS.length)];
        final StringBuilder told = new StringBuilder();
        final int edits = pick(3);
        final int asks = pick(7);
        int calls = 0;

        boolean go() {
            if (pick(3) > 0 && !newText()) return false;
            if (pick(4) > 0 && !call(25, 0, between(4, 12), 0, 0)) return false;
            while (calls < CALLS) {
                if (!someCall()) return false;
                for (int i = 0; i < asks; i++) if (!someQuestion()) return false;
            }
            return true;
        }

        boolean newText() {
            int lines = between(1, 6);
            for (int l = 0; l < lines; l++) {
                int n = pick(pick(4) == 0 ? 42 : 14);
                if (pick(3) == 0 && !call(0, '[', 0, 0, 0)) return false;
                for (int i = 0; i < n; i++) if (!call(0, someSign(), 0, 0, 0)) return false;
                if (pick(3) == 0 && !call(0, ']', 0, 0, 0)) return false;
                if (l + 1 < lines && !call(0, 10, 0, 0, 0)) return false;
            }
            return call(2, 0, 0, 0, 0);
        }

        int someSign() { return alphabet.charAt(pick(alphabet.length())); }

        int someLine() { return pick(8) == 0 ? between(-1, 13) : pick(y.rule(0)); }

        int somePlace() { return pick(8) == 0 ? between(-1, 42) : pick(10); }

        int someRow() { return pick(8) == 0 ? between(-2, 40) : pick(y.rule(2) + 1); }

        boolean someCall() {
            int kind = pick(100);
            if (kind < 4 - edits) return newText();
            if (kind < 6) return call(0, between(-1, 128), 0, 0, 0) && call(1, between(-1, 5), 0, 0, 0);
            if (kind < 30) return call(17, pick(12) == 0 ? between(0, 127) : someSign(), 0, 0, 0);
            if (kind < 36) return call(18, 0, 0, 0, 0);
            if (kind < 44) return call(19, 0, 0, 0, 0);
            if (kind < 49) return call(20, 0, 0, 0, 0);
            if (kind < 53) return call(21, 0, 0, 0, 0);
            if (kind < 58) return call(22, someLine(), someLine(), 0, 0);
            if (kind < 62) return call(23, between(-1, 5), between(0, pick(9) == 0 ? 2 : 1), 0, 0);
            if (kind < 63) return call(24, between(-1, 5), 0, 0, 0);
            if (kind < 69) return someSetting();
            if (kind < 71) return call(26, between(-1, 2), 0, 0, 0);
            if (kind < 72) return call(27, between(-1, 2), 0, 0, 0);
            if (kind < 80) return call(13, someLine(), somePlace(), 0, 0);
            if (kind < 85) return call(14, pick(15) == 0 ? between(-1, 2) : pick(2), 0, 0, 0);
            if (kind < 89) return call(15, pick(8) == 0 ? (pick(2) == 0 ? 2147483647 : -2147483648) : between(-5, 5), 0, 0, 0);
            if (kind < 92) return call(16, pick(15) == 0 ? between(-1, 2) : pick(2), 0, 0, 0);
            if (kind < 95) return toStart();
            return someSheetCall();
        }

        boolean toStart() { return call(13, someLine(), 0, 0, 0) && call(18, 0, 0, 0, 0); }

        boolean someSetting() {
            int what = between(pick(15) == 0 ? -1 : 0, pick(15) == 0 ? 4 : 3);
            int[] most = {40, 8, 2, 7};
            int top = what < 0 || what > 3 ? 9 : most[what] + (pick(6) == 0 ? 1 : 0);
            if (what == 0 && pick(2) == 0) top = 9;
            return call(25, what, between(what == 0 ? 3 : pick(6) == 0 ? -1 : 0, top), 0, 0);
        }

        boolean someSheetCall() {
            int k = pick(9) == 0 ? between(-1, 4) : pick(4), lane = pick(9) == 0 ? between(-1, 4) : pick(4);
            if (!call(28, k, lane, between(-1, pick(4) == 0 ? 21 : 7), 0)) return false;
            for (int i = -1; i < 8; i++) {
                int v = pick(5) == 0 ? pick(70000) - 35000 : someSign() + (pick(12) == 0 ? 256 * pick(300) : 0);
                if (!call(29, k, i, v, 0)) return false;
            }
            int other = pick(4) == 0 ? between(0, 3) : lane;
            int from = pick(12) == 0 ? 2147483647 - pick(3) : between(-1, 3);
            return call(30, k, other, from, between(pick(6) == 0 ? 0 : 1, pick(6) == 0 ? 21 : 4))
                && call(30, between(-1, 4), between(-1, 4), 0, 1);
        }

        boolean someQuestion() {
            int l = someLine();
            int i = pick(8) == 0 ? between(-1, 42) : between(0, Math.max(0, l < 0 || l > 11 ? 0 : y.line(l, 0)));
            int r = someRow();
            int c = pick(9) == 0 ? (pick(2) == 0 ? 2147483647 : -2147483648) : between(-1, 12);
            switch (pick(20)) {
                case 0: return call(3, 0, 0, 0, 0);
                case 1: case 2: return call(4, between(-1, 14), 0, 0, 0);
                case 3: case 4: return call(5, l, i, 0, 0);
                case 5: case 6: return call(6, l, between(-1, 7), 0, 0);
                case 7: case 8: return call(7, r, between(-1, 5), 0, 0);
                case 9: case 10: return call(8, r, c, 0, 0);
                case 11: case 12: case 13: return call(9, l, i, between(-1, 4), 0);
                case 14: case 15: return call(10, r, c, 0, 0);
                case 16: case 17: return call(11, between(-1, 8), between(-1, 4), 0, 0);
                default: return call(12, between(-1, 5), 0, 0, 0);
            }
        }

        /** A call behind the last one of a run is none. */
        boolean call(int op, int a, int b, int c, int d) {
            if (calls == CALLS) return true;
            calls++;
            int got = answer(op, a, b, c, d), due = model(op, a, b, c, d);
            told.append(' ').append(NAMES[op]).append("(" + a + "," + b + "," + c + "," + d + ")=" + got);
            if (got != due) told.append(" due is ").append(due);
            return got == due;
        }

        int answer(int op, int a, int b, int c, int d) {
            switch (op) {
                case 0: return x.feed(a);
                case 1: return x.end(a);
                case 2: return x.text();
                case 3: return x.fault();
                case 4: return x.rule(a);
                case 5: return x.sign(a, b);
                case 6: return x.line(a, b);
                case 7: return x.row(a, b);
                case 8: return x.cell(a, b);
                case 9: return x.at(a, b, c);
                case 10: return x.to(a, b);
                case 11: return x.fold(a, b);
                case 12: return x.caret(a);
                case 13: return x.go(a, b);
                case 14: return x.step(a);
                case 15: return x.down(a);
                case 16: return x.edge(a);
                case 17: return x.type(a);
                case 18: return x.erase();
                case 19: return x.split();
                case 20: return x.undo();
                case 21: return x.redo();
                case 22: return x.wrap(a, b);
                case 23: return x.shut(a, b);
                case 24: return x.unwrap(a);
                case 25: return x.set(a, b);
                case 26: return x.keep(a);
                case 27: return x.back(a);
                case 28: return x.sheet(a, b, c);
                case 29: return x.lay(a, b, c);
                default: return x.paste(a, b, c, d);
            }
        }

        int model(int op, int a, int b, int c, int d) {
            switch (op) {
                case 0: return y.feed(a);
                case 1: return y.end(a);
                case 2: return y.text();
                case 3: return y.fault();
                case 4: return y.rule(a);
                case 5: return y.sign(a, b);
                case 6: return y.line(a, b);
                case 7: return y.row(a, b);
                case 8: return y.cell(a, b);
                case 9: return y.at(a, b, c);
                case 10: return y.to(a, b);
                case 11: return y.fold(a, b);
                case 12: return y.caret(a);
                case 13: return y.go(a, b);
                case 14: return y.step(a);
                case 15: return y.down(a);
                case 16: return y.edge(a);
                case 17: return y.type(a);
                case 18: return y.erase();
                case 19: return y.split();
                case 20: return y.undo();
                case 21: return y.redo();
                case 22: return y.wrap(a, b);
                case 23: return y.shut(a, b);
                case 24: return y.unwrap(a);
                case 25: return y.set(a, b);
                case 26: return y.keep(a);
                case 27: return y.back(a);
                case 28: return y.sheet(a, b, c);
                case 29: return y.lay(a, b, c);
                default: return y.paste(a, b, c, d);
            }
        }
    }
}
