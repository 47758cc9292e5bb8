/** Lines of signs shown as rows of cells. What it promises stands in ../shared/DOC.md. */
public final class FoldedRows {
    public static final int BAD = -1, STATE = -2, FULL = -3, NONE = -4;

    private static final int LINE_LIMIT = 12;
    private static final int SIGN_LIMIT = 40;
    private static final int FOLD_LIMIT = 8;
    private static final int TAPE_LIMIT = 400;
    private static final int DONE_LIMIT = 16;
    private static final int IMAGE_COUNT = 2;
    private static final int SHEET_COUNT = 4;
    private static final int SHEET_LIMIT = 20;

    private static final int TAB = 9;
    private static final int LINE_END = 10;
    private static final int BLANK = 32;
    private static final int DASH = 45;
    private static final int FOLD_BEGIN = 91;
    private static final int FOLD_END = 93;
    private static final int MARK = 126;

    private static final int MOST = 2147483647;
    private static final int NO_BREAKS = 0;
    private static final int BY_WORDS = 2;

    private static final int NULL_FAULT = -11;
    private static final int CAST_FAULT = -12;
    private static final int INDEX_FAULT = -13;
    private static final int SIZE_FAULT = -14;

    private final Tape tape = new Tape();
    private final Settings settings = new Settings();
    private final History history = new History();
    private final Screen screen = new Screen();
    private final Image[] images = new Image[IMAGE_COUNT];
    private final Sheet[] sheets = new Sheet[SHEET_COUNT];
    private Frame now = new Frame();
    private Frame spare = new Frame();
    private int goal = 0;
    private int latestFault = 0;

    public FoldedRows() {
        for (int k = 0; k < images.length; k++) {
            images[k] = new Image();
        }
        for (int k = 0; k < sheets.length; k++) {
            sheets[k] = new Sheet();
        }
        layAll();
    }

    // ---- the text

    public int feed(int c) {
        if (c < 0 || c > 127) {
            return BAD;
        }
        return tape.append(c) ? tape.size : FULL;
    }

    public int end(int n) {
        int had = tape.size;
        if (n < 0 || n > had) {
            return BAD;
        }
        tape.size = n;
        return had;
    }

    public int text() {
        latestFault = tape.readInto(spare);
        int place = tape.faultPlace;
        tape.size = 0;
        if (latestFault != 0) {
            return -10 - place;
        }
        Frame told = spare;
        spare = now;
        now = told;
        history.forget();
        for (int k = 0; k < IMAGE_COUNT; k++) {
            forgetImage(k);
        }
        layAll();
        return now.lines.count;
    }

    public int fault() {
        return latestFault;
    }

    // ---- what there is

    public int rule(int what) {
        switch (what) {
            case 0: return now.lines.count;
            case 1: return now.lines.total();
            case 2: return screen.rowCount(now);
            case 3: return now.hiddenLines();
            case 4: return now.folds.count;
            case 5: return now.folds.shutCount();
            case 6: return settings.width;
            case 7: return settings.tabs;
            case 8: return settings.mode;
            case 9: return settings.extra;
            case 10: return history.done;
            case 11: return history.undone;
            case 12: return tape.size;
            case 13: return imageCount();
            default: return BAD;
        }
    }

    public int sign(int l, int i) {
        if (!now.lines.has(l) || i < 0) {
            return BAD;
        }
        return i < now.lines.length(l) ? now.lines.signOf(l, i) : NONE;
    }

    public int line(int l, int what) {
        if (!now.lines.has(l)) {
            return BAD;
        }
        LaidLine laid = screen.laidLine(l);
        switch (what) {
            case 0: return now.lines.length(l);
            case 1: return laid.rows;
            case 2: return now.folds.hides(l) ? NONE : screen.firstRowOf(now, l);
            case 3: return laid.indent;
            case 4: return laid.stopCount();
            case 5: return laid.breakCount();
            case 6: return laid.hangCount();
            default: return BAD;
        }
    }

    public int row(int r, int what) {
        int l = screen.lineOfRow(now, r);
        if (l < 0) {
            return BAD;
        }
        LaidLine laid = screen.laidLine(l);
        int own = r - screen.firstRowOf(now, l);
        switch (what) {
            case 0: return l;
            case 1: return laid.firstPlace(own);
            case 2: return laid.firstPlace(own + 1);
            case 3: return laid.firstColumn(own);
            case 4: return laid.columnBehind(own);
            default: return BAD;
        }
    }

    public int cell(int r, int c) {
        int l = screen.lineOfRow(now, r);
        if (l < 0 || c < 0) {
            return BAD;
        }
        int place = screen.laidLine(l).placeCovering(r - screen.firstRowOf(now, l), c);
        return place < 0 ? NONE : place;
    }

    public int at(int l, int i, int what) {
        if (!now.lines.hasPlace(l, i)) {
            return BAD;
        }
        LaidLine laid = screen.laidLine(l);
        switch (what) {
            case 0: return now.folds.hides(l) ? NONE : screen.rowOf(now, l, i);
            case 1: return laid.columnOf(i);
            case 2: return laid.isStop(i) ? 1 : 0;
            case 3: return laid.isBreak(i) ? 1 : 0;
            default: return BAD;
        }
    }

    public int to(int r, int c) {
        int l = screen.lineOfRow(now, r);
        if (l < 0 || c < 0) {
            return BAD;
        }
        return screen.laidLine(l).placeNear(r - screen.firstRowOf(now, l), c);
    }

    public int fold(int k, int what) {
        Folds folds = now.folds;
        if (!folds.has(k)) {
            return BAD;
        }
        switch (what) {
            case 0: return folds.firstOf(k);
            case 1: return folds.lastOf(k);
            case 2: return folds.isShut(k) ? 1 : 0;
            case 3: return folds.depthOf(k);
            default: return BAD;
        }
    }

    public int caret(int what) {
        switch (what) {
            case 0: return now.caretLine;
            case 1: return now.caretPlace;
            case 2: return goal;
            case 3: return caretRow();
            case 4: return caretColumn();
            default: return BAD;
        }
    }

    // ---- the caret goes

    public int go(int l, int i) {
        if (!now.lines.hasPlace(l, i)) {
            return BAD;
        }
        if (now.folds.hides(l) || !screen.laidLine(l).isStop(i)) {
            return STATE;
        }
        moveCaret(l, i);
        return caretRow();
    }

    public int step(int by) {
        if (by != 0 && by != 1) {
            return BAD;
        }
        LaidLine laid = screen.laidLine(now.caretLine);
        int place = by == 0 ? laid.stopAhead(now.caretPlace) : laid.stopBehind(now.caretPlace);
        if (place >= 0) {
            moveCaret(now.caretLine, place);
            return place;
        }
        int l = by == 0 ? now.shownLineAhead() : now.shownLineBehind();
        if (l < 0) {
            return NONE;
        }
        moveCaret(l, by == 0 ? now.lines.length(l) : 0);
        return now.caretPlace;
    }

    public int down(int n) {
        long wanted = (long) caretRow() + n;
        if (wanted > MOST) {
            return FULL;
        }
        int r = (int) Math.max(0L, Math.min(wanted, screen.rowCount(now) - 1L));
        int l = screen.lineOfRow(now, r);
        int place = screen.laidLine(l).placeNear(r - screen.firstRowOf(now, l), goal);
        now.caretLine = l;
        now.caretPlace = place;
        return r;
    }

    public int edge(int what) {
        if (what != 0 && what != 1) {
            return BAD;
        }
        LaidLine laid = screen.laidLine(now.caretLine);
        int own = laid.rowOf(now.caretPlace);
        int place = what == 0 ? laid.firstPlace(own) : laid.placeNear(own, MOST);
        moveCaret(now.caretLine, place);
        return place;
    }

    // ---- edits

    public int type(int c) {
        if (!isSign(c)) {
            return BAD;
        }
        int l = now.caretLine;
        if (now.lines.length(l) >= SIGN_LIMIT) {
            return FULL;
        }
        history.remember(now);
        now.lines.insert(l, now.caretPlace, c);
        now.caretPlace++;
        layCaretLine();
        return now.lines.length(l);
    }

    public int erase() {
        if (now.caretPlace == 0) {
            return joinWithLineAhead();
        }
        int l = now.caretLine;
        int upTo = now.caretPlace;
        int from = Math.max(0, screen.laidLine(l).stopAhead(upTo));
        history.remember(now);
        now.lines.remove(l, from, upTo);
        now.caretPlace = from;
        layCaretLine();
        return upTo - from;
    }

    public int split() {
        int l = now.caretLine;
        if (now.folds.shutsBehind(l)) {
            return STATE;
        }
        if (now.lines.count >= LINE_LIMIT) {
            return FULL;
        }
        history.remember(now);
        now.lines.divide(l, now.caretPlace);
        now.folds.followSplit(l);
        now.caretLine = l + 1;
        now.caretPlace = 0;
        layAll();
        return now.lines.count;
    }

    public int undo() {
        if (history.done == 0) {
            return STATE;
        }
        now = history.takeBack(now);
        layAll();
        return history.done;
    }

    public int redo() {
        if (history.undone == 0) {
            return STATE;
        }
        now = history.doAgain(now);
        layAll();
        return history.undone;
    }

    // ---- folds, settings

    public int wrap(int a, int b) {
        if (!now.lines.has(a) || !now.lines.has(b) || b <= a) {
            return BAD;
        }
        if (now.folds.clash(a, b)) {
            return STATE;
        }
        return now.folds.count < FOLD_LIMIT ? now.folds.add(a, b) : FULL;
    }

    public int shut(int k, int v) {
        Folds folds = now.folds;
        if (!folds.has(k) || (v != 0 && v != 1)) {
            return BAD;
        }
        int was = folds.isShut(k) ? 1 : 0;
        folds.setShut(k, v);
        if (folds.hides(now.caretLine)) {
            moveCaret(folds.firstOf(k), 0);
        }
        return was;
    }

    public int unwrap(int k) {
        if (!now.folds.has(k)) {
            return BAD;
        }
        now.folds.drop(k);
        return now.folds.count;
    }

    public int set(int what, int v) {
        if (!Settings.allows(what, v)) {
            return BAD;
        }
        int was = settings.change(what, v);
        layAll();
        return was;
    }

    // ---- images, sheets

    public int keep(int k) {
        Image image = imageOf(k);
        if (image == null) {
            return BAD;
        }
        int was = image.there ? 1 : 0;
        image.there = true;
        image.frame.copyFrom(now);
        image.settings.copyFrom(settings);
        return was;
    }

    public int back(int k) {
        Image image = imageOf(k);
        if (image == null) {
            return BAD;
        }
        if (!image.there) {
            return STATE;
        }
        now.copyFrom(image.frame);
        settings.copyFrom(image.settings);
        history.forget();
        layAll();
        return now.lines.count;
    }

    public int sheet(int k, int lane, int n) {
        Sheet sheet = sheetOf(k);
        if (sheet == null || !Sheet.hasLane(lane) || n > SHEET_LIMIT) {
            return BAD;
        }
        if (n < 0) {
            return SIZE_FAULT;
        }
        sheet.renew(lane, n);
        return 1;
    }

    public int lay(int k, int i, int v) {
        Sheet sheet = sheetOf(k);
        if (sheet == null) {
            return BAD;
        }
        if (!sheet.there) {
            return NULL_FAULT;
        }
        if (i < 0 || i >= sheet.size) {
            return INDEX_FAULT;
        }
        sheet.write(i, v);
        return 1;
    }

    public int paste(int k, int lane, int f, int n) {
        Sheet sheet = sheetOf(k);
        if (sheet == null || !Sheet.hasLane(lane) || n < 1 || n > SHEET_LIMIT) {
            return BAD;
        }
        int found = sheet.faultOfSigns(lane, f, n);
        if (found != 0) {
            return found;
        }
        int l = now.caretLine;
        if (now.lines.length(l) + n > SIGN_LIMIT) {
            return FULL;
        }
        history.remember(now);
        for (int i = 0; i < n; i++) {
            now.lines.insert(l, now.caretPlace, sheet.read(f + i));
            now.caretPlace++;
        }
        layCaretLine();
        return now.lines.length(l);
    }

    // ---- what the calls share

    private int joinWithLineAhead() {
        int ahead = now.caretLine - 1;
        if (ahead < 0) {
            return NONE;
        }
        if (now.folds.hides(ahead)) {
            return STATE;
        }
        int between = now.lines.length(ahead);
        if (between + now.lines.length(ahead + 1) > SIGN_LIMIT) {
            return FULL;
        }
        history.remember(now);
        now.lines.joinWithNext(ahead);
        now.folds.followJoin(ahead);
        now.caretLine = ahead;
        now.caretPlace = between;
        layAll();
        return 0;
    }

    private void layAll() {
        screen.layLines(now.lines, settings);
        settleCaret();
    }

    private void layCaretLine() {
        screen.laidLine(now.caretLine).arrange(now.lines, now.caretLine, settings);
        settleCaret();
    }

    private void settleCaret() {
        int place = screen.laidLine(now.caretLine).stopFrom(now.caretPlace);
        moveCaret(now.caretLine, place);
    }

    private void moveCaret(int l, int place) {
        now.caretLine = l;
        now.caretPlace = place;
        goal = caretColumn();
    }

    private int caretRow() {
        return screen.rowOf(now, now.caretLine, now.caretPlace);
    }

    private int caretColumn() {
        return screen.laidLine(now.caretLine).columnOf(now.caretPlace);
    }

    private int imageCount() {
        int count = 0;
        for (int k = 0; k < IMAGE_COUNT; k++) {
            Image image = imageOf(k);
            if (image != null && image.there) {
                count++;
            }
        }
        return count;
    }

    private void forgetImage(int k) {
        Image image = imageOf(k);
        if (image != null) {
            image.there = false;
        }
    }

    private Image imageOf(int k) {
        return k >= 0 && k < images.length ? images[k] : null;
    }

    private Sheet sheetOf(int k) {
        return k >= 0 && k < sheets.length ? sheets[k] : null;
    }

    private static boolean isWide(int c) {
        return c >= 'A' && c <= 'Z';
    }

    private static boolean isGap(int c) {
        return c == BLANK || c == TAB;
    }

    private static boolean isSign(int c) {
        return (c >= 'a' && c <= 'z') || isWide(c) || isGap(c) || c == DASH || c == MARK;
    }

    private static boolean letsBreakBehind(int c) {
        return isGap(c) || isWide(c) || c == DASH;
    }

    /** Arrays of numbers, read and written only behind a look at the index. */
    private static final class Numbers {
        static int pick(int[] numbers, int i) {
            return numbers != null && i >= 0 && i < numbers.length ? numbers[i] : 0;
        }

        static void put(int[] numbers, int i, int v) {
            if (numbers != null && i >= 0 && i < numbers.length) {
                numbers[i] = v;
            }
        }

        static void copy(int[] from, int[] into) {
            if (from != null && into != null) {
                System.arraycopy(from, 0, into, 0, Math.min(from.length, into.length));
            }
        }

        static int sum(int[] numbers, int n) {
            int sum = 0;
            for (int i = 0; i < n; i++) {
                sum += pick(numbers, i);
            }
            return sum;
        }
    }

    private static final class Settings {
        private int width = 20;
        private int tabs = 4;
        private int mode = BY_WORDS;
        private int extra = 2;

        static boolean allows(int what, int v) {
            switch (what) {
                case 0: return v >= 4 && v <= 40;
                case 1: return v >= 1 && v <= 8;
                case 2: return v >= NO_BREAKS && v <= BY_WORDS;
                case 3: return v >= 0 && v <= 7;
                default: return false;
            }
        }

        int change(int what, int v) {
            int was = 0;
            switch (what) {
                case 0: was = width; width = v; break;
                case 1: was = tabs; tabs = v; break;
                case 2: was = mode; mode = v; break;
                case 3: was = extra; extra = v; break;
                default: break;
            }
            return was;
        }

        void copyFrom(Settings other) {
            width = other.width;
            tabs = other.tabs;
            mode = other.mode;
            extra = other.extra;
        }

        int cellsToTabStop(int column) {
            return tabs > 0 ? tabs - column % tabs : 1;
        }

        int cellsOf(int c, int place, int column) {
            if (isWide(c)) {
                return 2;
            }
            if (c == MARK) {
                return place == 0 ? 1 : 0;
            }
            if (c != TAB) {
                return 1;
            }
            int wanted = cellsToTabStop(column);
            return mode == NO_BREAKS ? wanted : Math.min(wanted, Math.max(0, width - column));
        }

        boolean fits(int c, int column, int cells) {
            if (mode == NO_BREAKS) {
                return true;
            }
            return c == TAB ? column < width : column + cells <= width;
        }
    }

    private static final class Lines {
        private int count = 1;
        private final int[] lengths = new int[LINE_LIMIT];
        private final int[] signs = new int[LINE_LIMIT * SIGN_LIMIT];

        boolean has(int l) {
            return l >= 0 && l < count;
        }

        boolean hasPlace(int l, int i) {
            return has(l) && i >= 0 && i <= length(l);
        }

        int length(int l) {
            return Numbers.pick(lengths, l);
        }

        int total() {
            return Numbers.sum(lengths, count);
        }

        int signOf(int l, int i) {
            return Numbers.pick(signs, l * SIGN_LIMIT + i);
        }

        void clear() {
            count = 1;
            Numbers.put(lengths, 0, 0);
        }

        void addLine() {
            Numbers.put(lengths, count, 0);
            count++;
        }

        void append(int l, int c) {
            int n = length(l);
            Numbers.put(signs, l * SIGN_LIMIT + n, c);
            Numbers.put(lengths, l, n + 1);
        }

        void insert(int l, int at, int c) {
            int n = length(l);
            for (int i = n; i > at; i--) {
                writeSign(l, i, signOf(l, i - 1));
            }
            writeSign(l, at, c);
            Numbers.put(lengths, l, n + 1);
        }

        void remove(int l, int from, int upTo) {
            int n = length(l);
            int gone = upTo - from;
            for (int i = upTo; i < n; i++) {
                writeSign(l, i - gone, signOf(l, i));
            }
            Numbers.put(lengths, l, n - gone);
        }

        void divide(int l, int at) {
            for (int k = count; k > l + 1; k--) {
                copyLine(k - 1, k);
            }
            count++;
            Numbers.put(lengths, l + 1, 0);
            appendPart(l, at, l + 1);
            Numbers.put(lengths, l, at);
        }

        void joinWithNext(int l) {
            appendPart(l + 1, 0, l);
            count--;
            for (int k = l + 1; k < count; k++) {
                copyLine(k + 1, k);
            }
        }

        void copyFrom(Lines other) {
            count = other.count;
            Numbers.copy(other.lengths, lengths);
            Numbers.copy(other.signs, signs);
        }

        private void copyLine(int from, int into) {
            Numbers.put(lengths, into, 0);
            appendPart(from, 0, into);
        }

        private void appendPart(int source, int from, int into) {
            int n = length(source);
            for (int i = from; i < n; i++) {
                append(into, signOf(source, i));
            }
        }

        private void writeSign(int l, int i, int c) {
            Numbers.put(signs, l * SIGN_LIMIT + i, c);
        }
    }

    /** FOLDS, always in the order by which they are numbered. */
    private static final class Folds {
        private int count = 0;
        private final int[] firsts = new int[FOLD_LIMIT];
        private final int[] lasts = new int[FOLD_LIMIT];
        private final int[] shuts = new int[FOLD_LIMIT];

        boolean has(int k) {
            return k >= 0 && k < count;
        }

        int firstOf(int k) {
            return Numbers.pick(firsts, k);
        }

        int lastOf(int k) {
            return Numbers.pick(lasts, k);
        }

        boolean isShut(int k) {
            return Numbers.pick(shuts, k) == 1;
        }

        void setShut(int k, int v) {
            Numbers.put(shuts, k, v);
        }

        int shutCount() {
            return Numbers.sum(shuts, count);
        }

        int depthOf(int k) {
            int depth = 0;
            for (int j = 0; j < count; j++) {
                if (j != k && firstOf(j) <= firstOf(k) && lastOf(k) <= lastOf(j)) {
                    depth++;
                }
            }
            return depth;
        }

        boolean hides(int l) {
            for (int k = 0; k < count; k++) {
                if (isShut(k) && firstOf(k) < l && l <= lastOf(k)) {
                    return true;
                }
            }
            return false;
        }

        boolean shutsBehind(int l) {
            for (int k = 0; k < count; k++) {
                if (isShut(k) && firstOf(k) == l) {
                    return true;
                }
            }
            return false;
        }

        /** Whether a FOLD of these LINES is the same as one of them, or CROSSES one. */
        boolean clash(int a, int b) {
            for (int k = 0; k < count; k++) {
                if (areAtOdds(firstOf(k), lastOf(k), a, b)) {
                    return true;
                }
            }
            return false;
        }

        int add(int a, int b) {
            int k = count;
            while (k > 0 && comeAhead(a, b, firstOf(k - 1), lastOf(k - 1))) {
                write(k, firstOf(k - 1), lastOf(k - 1), Numbers.pick(shuts, k - 1));
                k--;
            }
            write(k, a, b, 0);
            count++;
            return k;
        }

        void drop(int k) {
            for (int j = k + 1; j < count; j++) {
                write(j - 1, firstOf(j), lastOf(j), Numbers.pick(shuts, j));
            }
            count--;
        }

        void clear() {
            count = 0;
        }

        void followSplit(int l) {
            for (int k = 0; k < count; k++) {
                Numbers.put(firsts, k, firstOf(k) > l ? firstOf(k) + 1 : firstOf(k));
                Numbers.put(lasts, k, lastOf(k) >= l ? lastOf(k) + 1 : lastOf(k));
            }
        }

        /** As FOLDS do not CROSS, those that stay are in order still. */
        void followJoin(int l) {
            int before = count;
            count = 0;
            for (int k = 0; k < before; k++) {
                int a = firstOf(k) > l ? firstOf(k) - 1 : firstOf(k);
                int b = lastOf(k) > l ? lastOf(k) - 1 : lastOf(k);
                if (a < b && !clash(a, b)) {
                    write(count, a, b, Numbers.pick(shuts, k));
                    count++;
                }
            }
        }

        void copyFrom(Folds other) {
            count = other.count;
            Numbers.copy(other.firsts, firsts);
            Numbers.copy(other.lasts, lasts);
            Numbers.copy(other.shuts, shuts);
        }

        /** Whether LINES a to b and c to d are the same, or CROSS. */
        private static boolean areAtOdds(int a, int b, int c, int d) {
            if (a == c && b == d) {
                return true;
            }
            boolean apart = b < c || d < a;
            boolean within = (a <= c && d <= b) || (c <= a && b <= d);
            return !apart && !within;
        }

        private static boolean comeAhead(int a, int b, int c, int d) {
            return a < c || (a == c && b > d);
        }

        private void write(int k, int a, int b, int v) {
            Numbers.put(firsts, k, a);
            Numbers.put(lasts, k, b);
            Numbers.put(shuts, k, v);
        }
    }

    /** A STATE of all: LINES, FOLDS, CARET. */
    private static final class Frame {
        private final Lines lines = new Lines();
        private final Folds folds = new Folds();
        private int caretLine = 0;
        private int caretPlace = 0;

        void clear() {
            lines.clear();
            folds.clear();
            caretLine = 0;
            caretPlace = 0;
        }

        void copyFrom(Frame other) {
            lines.copyFrom(other.lines);
            folds.copyFrom(other.folds);
            caretLine = other.caretLine;
            caretPlace = other.caretPlace;
        }

        int hiddenLines() {
            int hidden = 0;
            for (int l = 0; l < lines.count; l++) {
                if (folds.hides(l)) {
                    hidden++;
                }
            }
            return hidden;
        }

        int shownLineAhead() {
            for (int l = caretLine - 1; l >= 0; l--) {
                if (!folds.hides(l)) {
                    return l;
                }
            }
            return -1;
        }

        int shownLineBehind() {
            for (int l = caretLine + 1; l < lines.count; l++) {
                if (!folds.hides(l)) {
                    return l;
                }
            }
            return -1;
        }
    }

    /**
     * DONE and UNDONE in one row of frames: DONE from 0 on, the latest at the end of them,
     * UNDONE behind these, the latest first. One slot then serves both ways, as the frame that
     * is and the one in the slot change places.
     */
    private static final class History {
        private final Frame[] slots = new Frame[DONE_LIMIT];
        private int done = 0;
        private int undone = 0;

        History() {
            for (int k = 0; k < slots.length; k++) {
                slots[k] = new Frame();
            }
        }

        void forget() {
            done = 0;
            undone = 0;
        }

        void remember(Frame now) {
            undone = 0;
            if (done >= DONE_LIMIT) {
                dropOldest();
            }
            if (done >= 0 && done < slots.length && slots[done] != null) {
                slots[done].copyFrom(now);
                done++;
            }
        }

        Frame takeBack(Frame now) {
            if (done <= 0) {
                return now;
            }
            done--;
            undone++;
            return exchange(done, now);
        }

        Frame doAgain(Frame now) {
            if (undone <= 0) {
                return now;
            }
            Frame next = exchange(done, now);
            done++;
            undone--;
            return next;
        }

        private Frame exchange(int k, Frame now) {
            if (k < 0 || k >= slots.length || slots[k] == null) {
                return now;
            }
            Frame held = slots[k];
            slots[k] = now;
            return held;
        }

        /** The oldest frame goes to the end, where it is written anew. */
        private void dropOldest() {
            for (int k = 0; k + 1 < slots.length; k++) {
                Frame older = slots[k];
                slots[k] = slots[k + 1];
                slots[k + 1] = older;
            }
            done--;
        }
    }

    private static final class Image {
        private final Frame frame = new Frame();
        private final Settings settings = new Settings();
        private boolean there = false;
    }

    private static final class Sheet {
        private boolean there = false;
        private int lane = 0;
        private int size = 0;
        private final int[] cells = new int[SHEET_LIMIT];

        static boolean hasLane(int lane) {
            return lane >= 0 && lane <= 3;
        }

        void renew(int newLane, int n) {
            there = true;
            lane = newLane;
            size = n;
            for (int i = 0; i < SHEET_LIMIT; i++) {
                Numbers.put(cells, i, 0);
            }
        }

        int read(int i) {
            return Numbers.pick(cells, i);
        }

        void write(int i, int v) {
            Numbers.put(cells, i, lowestBits(v));
        }

        int faultOfSigns(int asLane, int from, int n) {
            if (!there) {
                return NULL_FAULT;
            }
            if (asLane != lane) {
                return CAST_FAULT;
            }
            for (int i = 0; i < n; i++) {
                int place = from + i;
                if (place < 0 || place >= size) {
                    return INDEX_FAULT;
                }
                if (!isSign(read(place))) {
                    return -20 - i;
                }
            }
            return 0;
        }

        private int lowestBits(int v) {
            switch (lane) {
                case 0: return (byte) v;
                case 1: return (char) v;
                case 2: return (short) v;
                default: return v;
            }
        }
    }

    /** THE TAPE, and the text that is read from it. */
    private static final class Tape {
        private final int[] bytes = new int[TAPE_LIMIT];
        private final int[] begun = new int[FOLD_LIMIT];
        private int size = 0;
        private int faultPlace = 0;
        private int open = 0;
        private int begunInAll = 0;

        boolean append(int c) {
            if (size >= TAPE_LIMIT) {
                return false;
            }
            Numbers.put(bytes, size, c);
            size++;
            return true;
        }

        /** The FAULT (0: none), its place is faultPlace then. */
        int readInto(Frame into) {
            into.clear();
            open = 0;
            begunInAll = 0;
            for (int i = 0; i < size; i++) {
                int found = readByte(Numbers.pick(bytes, i), into);
                if (found != 0) {
                    faultPlace = i;
                    return found;
                }
            }
            faultPlace = size;
            return open > 0 ? 6 : 0;
        }

        private int readByte(int c, Frame into) {
            Lines lines = into.lines;
            if (c == LINE_END) {
                return endLine(lines);
            }
            if (c == FOLD_BEGIN) {
                return beginFold(lines.count - 1);
            }
            if (c == FOLD_END) {
                return endFold(into.folds, lines.count - 1);
            }
            if (!isSign(c)) {
                return 1;
            }
            if (lines.length(lines.count - 1) >= SIGN_LIMIT) {
                return 2;
            }
            lines.append(lines.count - 1, c);
            return 0;
        }

        private int endLine(Lines lines) {
            if (lines.count >= LINE_LIMIT) {
                return 3;
            }
            lines.addLine();
            return 0;
        }

        private int beginFold(int l) {
            if (begunInAll >= FOLD_LIMIT) {
                return 4;
            }
            Numbers.put(begun, open, l);
            open++;
            begunInAll++;
            return 0;
        }

        private int endFold(Folds folds, int l) {
            if (open == 0) {
                return 5;
            }
            int first = Numbers.pick(begun, open - 1);
            if (first >= l || folds.clash(first, l)) {
                return 5;
            }
            open--;
            folds.add(first, l);
            return 0;
        }
    }

    /** One LINE laid into its ROWS, numbered from 0 in the LINE. */
    private static final class LaidLine {
        private int size = 0;
        private int rows = 1;
        private int indent = 0;
        private final int[] rowOfPlace = new int[SIGN_LIMIT + 1];
        private final int[] columnOfPlace = new int[SIGN_LIMIT + 1];
        private final int[] cellsOfSign = new int[SIGN_LIMIT + 1];
        private final int[] hangs = new int[SIGN_LIMIT + 1];
        private final int[] stops = new int[SIGN_LIMIT + 1];
        private final int[] breaks = new int[SIGN_LIMIT + 1];
        private final int[] rowBegins = new int[SIGN_LIMIT + 2];
        private final int[] columnsBehind = new int[SIGN_LIMIT + 1];

        void arrange(Lines lines, int l, Settings by) {
            size = lines.length(l);
            indent = by.mode == NO_BREAKS ? 0 : Math.min(leadingCells(lines, l, by) + by.extra, by.width / 2);
            findBreaks(lines, l);
            int from = 0;
            // A LINE without SIGNS has a ROW, too.
            for (int r = 0; r <= SIGN_LIMIT && (r == 0 || from < size); r++) {
                Numbers.put(rowBegins, r, from);
                from = fillRow(lines, l, r, by);
                rows = r + 1;
            }
            Numbers.put(rowBegins, rows, size);
            Numbers.put(rowOfPlace, size, rows - 1);
            Numbers.put(columnOfPlace, size, columnBehind(rows - 1));
            findStops(lines, l);
        }

        int stopCount() {
            return Numbers.sum(stops, size + 1);
        }

        int breakCount() {
            return Numbers.sum(breaks, size + 1);
        }

        int hangCount() {
            return Numbers.sum(hangs, size);
        }

        boolean isStop(int place) {
            return Numbers.pick(stops, place) == 1;
        }

        boolean isBreak(int place) {
            return Numbers.pick(breaks, place) == 1;
        }

        int rowOf(int place) {
            return Numbers.pick(rowOfPlace, place);
        }

        int columnOf(int place) {
            return Numbers.pick(columnOfPlace, place);
        }

        /** Of the number of ROWS: the PLACE behind all SIGNS. */
        int firstPlace(int r) {
            return Numbers.pick(rowBegins, r);
        }

        int firstColumn(int r) {
            return r == 0 ? 0 : indent;
        }

        int columnBehind(int r) {
            return Numbers.pick(columnsBehind, r);
        }

        int placeCovering(int r, int column) {
            int behind = firstPlace(r + 1);
            for (int i = firstPlace(r); i < behind; i++) {
                int begin = columnOf(i);
                if (begin <= column && column < begin + Numbers.pick(cellsOfSign, i)) {
                    return i;
                }
            }
            return -1;
        }

        int placeNear(int r, int column) {
            int place = firstPlace(r);
            for (int i = place + 1; i <= size; i++) {
                if (rowOf(i) == r && isStop(i) && columnOf(i) <= column) {
                    place = i;
                }
            }
            return place;
        }

        int stopFrom(int place) {
            for (int i = place; i < size; i++) {
                if (isStop(i)) {
                    return i;
                }
            }
            return size;
        }

        int stopBehind(int place) {
            return place < size ? stopFrom(place + 1) : -1;
        }

        int stopAhead(int place) {
            for (int i = place - 1; i >= 0; i--) {
                if (isStop(i)) {
                    return i;
                }
            }
            return -1;
        }

        private int leadingCells(Lines lines, int l, Settings by) {
            int column = 0;
            for (int i = 0; i < size && isGap(lines.signOf(l, i)); i++) {
                column += lines.signOf(l, i) == TAB ? by.cellsToTabStop(column) : 1;
            }
            return column;
        }

        private void findBreaks(Lines lines, int l) {
            int nearest = MARK;
            for (int i = 0; i <= size; i++) {
                int c = i < size ? lines.signOf(l, i) : MARK;
                boolean can = i > 0 && c != MARK && (isWide(c) || letsBreakBehind(nearest));
                Numbers.put(breaks, i, can ? 1 : 0);
                nearest = c == MARK ? nearest : c;
            }
        }

        private void findStops(Lines lines, int l) {
            for (int i = 0; i <= size; i++) {
                boolean outer = i == 0 || i == size;
                boolean plain = lines.signOf(l, i) != MARK && Numbers.pick(hangs, i) == 0;
                Numbers.put(stops, i, outer || plain ? 1 : 0);
            }
        }

        /** The PLACE at which the ROW ends. What was laid behind that is laid again by the next ROW. */
        private int fillRow(Lines lines, int l, int r, Settings by) {
            int from = firstPlace(r);
            int column = firstColumn(r);
            for (int i = from; i < size; i++) {
                int c = lines.signOf(l, i);
                int cells = by.cellsOf(c, i, column);
                boolean fits = by.fits(c, column, cells);
                if (!fits && !isGap(c)) {
                    int end = by.mode == BY_WORDS ? rowEnd(from, i) : i;
                    Numbers.put(columnsBehind, r, end < i ? columnOf(end) : column);
                    return end;
                }
                cells = fits ? cells : 0;
                Numbers.put(rowOfPlace, i, r);
                Numbers.put(columnOfPlace, i, column);
                Numbers.put(cellsOfSign, i, cells);
                Numbers.put(hangs, i, fits ? 0 : 1);
                column += cells;
            }
            Numbers.put(columnsBehind, r, column);
            return size;
        }

        private int rowEnd(int from, int tooFar) {
            for (int i = tooFar; i > from; i--) {
                if (Numbers.pick(breaks, i) == 1) {
                    return i;
                }
            }
            return tooFar;
        }
    }

    /** The LINES as they are laid; which of them are shown the FOLDS of a frame tell. */
    private static final class Screen {
        private final LaidLine[] laid = new LaidLine[LINE_LIMIT];
        private final LaidLine nowhere = new LaidLine();

        Screen() {
            for (int l = 0; l < laid.length; l++) {
                laid[l] = new LaidLine();
            }
        }

        LaidLine laidLine(int l) {
            LaidLine found = l >= 0 && l < laid.length ? laid[l] : null;
            return found != null ? found : nowhere;
        }

        void layLines(Lines lines, Settings by) {
            for (int l = 0; l < lines.count; l++) {
                laidLine(l).arrange(lines, l, by);
            }
        }

        int rowCount(Frame frame) {
            return firstRowOf(frame, frame.lines.count);
        }

        int firstRowOf(Frame frame, int l) {
            int rows = 0;
            for (int k = 0; k < l; k++) {
                if (!frame.folds.hides(k)) {
                    rows += laidLine(k).rows;
                }
            }
            return rows;
        }

        int rowOf(Frame frame, int l, int place) {
            return firstRowOf(frame, l) + laidLine(l).rowOf(place);
        }

        int lineOfRow(Frame frame, int r) {
            if (r < 0) {
                return -1;
            }
            int left = r;
            for (int l = 0; l < frame.lines.count; l++) {
                int rows = frame.folds.hides(l) ? 0 : laidLine(l).rows;
                if (left < rows) {
                    return l;
                }
                left -= rows;
            }
            return -1;
        }
    }
}
