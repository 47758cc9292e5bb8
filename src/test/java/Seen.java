/** All that can be seen of an object, in a text. What can be seen by changes alone comes last, so the object is used up. */
final class Seen {
    private final FoldedRows x;
    private final StringBuilder out = new StringBuilder();
    int calls = 0;

    Seen(FoldedRows x) {
        this.x = x;
    }

    String all() {
        asked();
        doneAndUndone();
        sheets();
        for (int k = 0; k < 2; k++) {
            lookIfTaken(told("back(" + k + ")", x.back(k)));
        }
        lookIfTaken(told("text()", x.text()));
        told("fault()", x.fault());
        return out.toString();
    }

    private void lookIfTaken(int answer) {
        if (answer >= 0) {
            shortLook();
        }
    }

    private int told(String call, int answer) {
        calls++;
        out.append(call).append('=').append(answer).append(' ');
        return answer;
    }

    private void end() {
        out.append('\n');
    }

    private void asked() {
        for (int what = 0; what < 14; what++) {
            told("rule(" + what + ")", x.rule(what));
        }
        told("fault()", x.fault());
        shortLook();
        int lines = told("rule(0)", x.rule(0));
        for (int l = 0; l < lines; l++) {
            for (int what = 1; what < 7; what++) {
                told("line(" + l + "," + what + ")", x.line(l, what));
            }
        }
        int rows = told("rule(2)", x.rule(2));
        for (int r = 0; r < rows; r++) {
            told("row(" + r + ",1)", x.row(r, 1));
        }
        end();
    }

    private void shortLook() {
        for (int what = 0; what < 5; what++) {
            told("caret(" + what + ")", x.caret(what));
        }
        int folds = told("rule(4)", x.rule(4));
        for (int k = 0; k < folds; k++) {
            told("fold(" + k + ",0)", x.fold(k, 0));
            told("fold(" + k + ",1)", x.fold(k, 1));
            told("fold(" + k + ",2)", x.fold(k, 2));
        }
        int lines = told("rule(0)", x.rule(0));
        for (int l = 0; l < lines; l++) {
            int n = told("line(" + l + ",0)", x.line(l, 0));
            for (int i = 0; i < n; i++) {
                told("sign", x.sign(l, i));
            }
        }
        end();
    }

    private void doneAndUndone() {
        int left = told("rule(10)", x.rule(10));
        for (int i = 0; i <= left; i++) {
            lookIfTaken(told("undo()", x.undo()));
        }
        left = told("rule(11)", x.rule(11));
        for (int i = 0; i <= left; i++) {
            lookIfTaken(told("redo()", x.redo()));
        }
    }

    private void sheets() {
        for (int k = 0; k < 4; k++) {
            for (int lane = 0; lane < 4; lane++) {
                told("paste(" + k + "," + lane + ",0,1)", x.paste(k, lane, 0, 1));
            }
        }
        for (int i = 1; i < 4; i++) {
            told("paste(0,0," + i + ",1)", x.paste(0, 0, i, 1));
        }
        shortLook();
    }
}
