/** Sentences that name a boundary: CARET and GOAL (Terms 2), promises 13 to 18. */
public final class CaretEdgesTest {
    private static final String FOUR = "set(0,4) set(3,0) ";
    /** ROWS of 3, 1, 2 SIGNS, one HIDDEN LINE, then 1 SIGN. */
    private static final String SCREEN = "tell(abc\nd\n[ef\ngh]\ni) shut(0,1) ";

    public static void main(String[] args) {
        foldAndCaret();
        go();
        step();
        stepToOtherLines();
        down();
        downBeyond();
        edge();
        goal();
        goalStays();
        theNextStop();
        Due.end();
    }

    private static void foldAndCaret() {
        Sentence.holds("fold: BAD: no such FOLD", "fold(0,0)=BAD tell([a\nb]) fold(0,0)=0 fold(1,0)=BAD fold(-1,0)=BAD fold(8,0)=BAD fold(MAX,0)=BAD fold(MIN,0)=BAD",
            "fold(1,1)=BAD fold(1,2)=BAD fold(1,3)=BAD fold(-1,1)=BAD fold(-1,2)=BAD fold(-1,3)=BAD");
        Sentence.holds("fold: BAD: what", "tell([a\nb]) fold(0,3)=0 fold(0,4)=BAD fold(0,-1)=BAD fold(0,MAX)=BAD fold(0,MIN)=BAD");
        Sentence.holds("fold: 0 FIRST, 1 LAST, 2 whether it is SHUT", "tell(a\n[b\nc\nd]) fold(0,0)=1 fold(0,1)=3 fold(0,2)=0 shut(0,1) fold(0,2)=1");
        Sentence.holds("fold: 3 in how many others it is", "tell([[a\n[b\nc]\nd]\n[e\nf]]) folds(0-5 0-3 1-2 4-5)",
            "fold(0,3)=0 fold(1,3)=1 fold(2,3)=2 fold(3,3)=1");
        Sentence.holds("fold: 3 .. of those that have FIRST or LAST in common", "tell([[a\nb]\n[c\nd]]) folds(0-3 0-1 2-3) fold(0,3)=0 fold(1,3)=1 fold(2,3)=1");
        Sentence.holds("fold: 3 .. not of one that went", "11*split() wrap(0,5) wrap(1,2) fold(1,3)=1 unwrap(0)=1 fold(0,3)=0 wrap(4,5) unwrap(0)=1 fold(0,3)=0");
        Sentence.holds("fold: 3 seven at most", "11*split() wrap(0,8) wrap(0,7) wrap(0,6) wrap(0,5) wrap(0,4) wrap(0,3) wrap(0,2) wrap(0,1)=7 fold(7,3)=7 fold(0,3)=0");
        Sentence.holds("caret: each of 0 to 4", "tell(ab\ncd ~e\tf) set(0,5) go(1,4)=1 step(1)=5 step(1)=6 caretIs(1 6 2 2 2) down(-2)=0 caretIs(0 2 2 0 2)");
        Sentence.holds("caret: BAD", "caret(-1)=BAD caret(5)=BAD caret(MAX)=BAD caret(MIN)=BAD caret(4)=0");
    }

    private static void go() {
        Sentence.holds("go: its ROW of the screen", "tell(abcdef\ngh) " + FOUR + "go(1,0)=2 go(0,3)=0 go(0,4)=1 go(0,0)=0");
        Sentence.holds("go: to N", "tell(ab\n) go(0,2)=0 caretIs(0 2 2 0 2) go(1,0)=1 caretIs(1 0 0 1 0)");
        Sentence.holds("go: BAD: no such PLACE", "tell(ab) go(0,3)=BAD go(0,-1)=BAD go(0,MAX)=BAD go(0,MIN)=BAD");
        Sentence.holds("go: BAD: no such LINE", "tell(ab\nc) go(2,0)=BAD go(-1,0)=BAD go(12,0)=BAD go(MAX,0)=BAD go(MIN,0)=BAD");
        Sentence.holds("go: STATE: the LINE is HIDDEN", SCREEN + "go(3,0)=STATE go(3,2)=STATE go(2,2)=2 go(4,0)=3");
        Sentence.holds("go: STATE: it is no STOP", "tell(a~b\nabcd \te) " + FOUR + "go(0,1)=STATE go(0,2)=0 go(1,4)=STATE go(1,5)=STATE go(1,6)=2");
        Sentence.holds("go: PLACE 0 is a STOP, though a MARK is next", "tell(ab\n~c) go(1,0)=1 caretIs(1 0 0 1 0)");
        Sentence.holds("go: N is a STOP, though it is behind one that HANGS", "tell(abcd ) " + FOUR + "go(0,4)=STATE go(0,5)=0 caretIs(0 5 4 0 4)");
        Sentence.holds("go: BAD is ahead of STATE", SCREEN + "go(3,3)=BAD go(3,-1)=BAD");
    }

    private static void step() {
        Sentence.holds("step: BAD", "tell(ab) go(0,1) step(-1)=BAD step(2)=BAD step(MAX)=BAD step(MIN)=BAD caret(1)=1");
        Sentence.holds("step: BAD is ahead of NONE", "step(2)=BAD step(-1)=BAD step(0)=NONE step(1)=NONE");
        Sentence.holds("step: to the next STOP: its PLACE", "tell(a~~bC) step(1)=3 step(1)=4 step(1)=5 step(1)=NONE");
        Sentence.holds("step: to the STOP ahead: its PLACE", "tell(a~~bC) go(0,5) step(0)=4 step(0)=3 step(0)=0 step(0)=NONE");
        Sentence.holds("step: over SIGNS that HANG", "tell(abcd  ef) " + FOUR + "go(0,3) step(1)=6 caretIs(0 6 0 1 0) step(0)=3 caretIs(0 3 3 0 3)");
        Sentence.holds("step: over SIGNS that HANG, to N", "tell(abcd  ) " + FOUR + "go(0,3) step(1)=6 caretIs(0 6 4 0 4) step(0)=3");
        Sentence.holds("step: NONE: there is none ahead", "tell(ab\nc) step(0)=NONE caretIs(0 0 0 0 0)");
        Sentence.holds("step: NONE: there is no next one", "tell(ab\nc) go(1,1) step(1)=NONE caretIs(1 1 1 1 1)");
    }

    private static void stepToOtherLines() {
        Sentence.holds("step: is there none, to 0 of the next LINE", "tell(ab\ncd) go(0,2) step(1)=0 caretIs(1 0 0 1 0)");
        Sentence.holds("step: is there none, to N of the LINE ahead", "tell(ab\ncd) go(1,0) step(0)=2 caretIs(0 2 2 0 2)");
        Sentence.holds("step: .. to 0, though a MARK is next", "tell(ab\n~d) go(0,2) step(1)=0 caretIs(1 0 0 1 0)");
        Sentence.holds("step: .. to N, though it is behind one that HANGS", "tell(abcd \ne) " + FOUR + "go(1,0) step(0)=5 caretIs(0 5 4 0 4)");
        Sentence.holds("step: LINES without SIGNS", "2*split() step(1)=NONE step(0)=0 caret(0)=1 step(0)=0 caret(0)=0 step(0)=NONE step(1)=0 caret(0)=1");
        Sentence.holds("step: .. that are not HIDDEN, behind", SCREEN + "go(2,2) step(1)=0 caretIs(4 0 0 3 0)");
        Sentence.holds("step: .. that are not HIDDEN, ahead", SCREEN + "go(4,0) step(0)=2 caretIs(2 2 2 2 2)");
        Sentence.holds("step: NONE, as all behind are HIDDEN", "tell([a\nb\nc]) shut(0,1) go(0,1) step(1)=NONE caretIs(0 1 1 0 1)");
    }

    private static void down() {
        Sentence.holds("down: n ROWS of the screen down: its ROW", "tell(abcdefgh\nij\nk) " + FOUR + "down(1)=1 down(2)=3 caretIs(2 0 0 3 0)");
        Sentence.holds("down: (n below 0: up)", "tell(abcdefgh\nij\nk) " + FOUR + "go(2,0) down(-1)=2 down(-2)=0 caretIs(0 0 0 0 0)");
        Sentence.holds("down: to the PLACE of that ROW and GOAL", "tell(abcd\nE\n\nfghi) go(0,3) down(1)=1 caretIs(1 1 3 1 2) down(1)=2 caretIs(2 0 3 2 0) down(1)=3 caretIs(3 3 3 3 3)");
        Sentence.holds("down: .. the first STOP, if there is none", "tell(abcdef) set(0,4) set(2,1) go(0,1) down(1)=1 caretIs(0 4 1 1 2) down(-1)=0 caretIs(0 1 1 0 1)");
        Sentence.holds("down: .. no MARK, none that HANGS", "tell(abc\nd~e\nabcd  f) " + FOUR + "go(0,1) down(1)=1 caret(1)=2 go(0,3) down(2)=2 caret(1)=3");
        Sentence.holds("down: 0 goes to the PLACE of GOAL", "tell(abc\nd) go(0,3) down(1)=1 type('e') undo() caretIs(1 1 1 1 1) down(0)=1 caretIs(1 1 1 1 1)");
        Sentence.holds("down: 0, as GOAL is another COLUMN", "tell(abc\nd) go(0,3) down(1)=1 caretIs(1 1 3 1 1) down(0)=1 caretIs(1 1 3 1 1)");
        Sentence.holds("down: over LINES that are HIDDEN", SCREEN + "go(2,1) down(1)=3 caretIs(4 1 1 3 1) down(-1)=2 caretIs(2 1 1 2 1)");
    }

    private static void downBeyond() {
        Sentence.holds("down: but to the last one at most", SCREEN + "down(3)=3 caret(0)=4 down(1)=3 down(9)=3 go(0,0) down(4)=3");
        Sentence.holds("down: but to the first one at most", SCREEN + "go(4,0) down(-3)=0 caret(0)=0 down(-1)=0 down(-9)=0 go(4,0) down(-4)=0");
        Sentence.holds("down: .. to the PLACE of GOAL there, too", "tell(abc\ndef) go(1,3) down(-9)=0 caretIs(0 3 3 0 3) down(9)=1 caretIs(1 3 3 1 3)");
        Sentence.holds("down: FULL: its ROW and n are beyond 32 bits", SCREEN + "go(1,0) down(MAX)=FULL caret(0)=1 down(2147483646)=3 down(2147483645)=FULL down(2147483644)=3 caret(0)=4");
        Sentence.holds("down: not FULL at ROW 0", SCREEN + "down(MAX)=3 down(MAX)=FULL");
        Sentence.holds("down: not FULL by the least n", SCREEN + "down(MIN)=0 go(4,0) down(MIN)=0 caret(0)=0");
        Sentence.holds("down: FULL leaves GOAL", "tell(abc\nd) go(0,3) down(1) down(MAX)=FULL caretIs(1 1 3 1 1)");
    }

    private static void edge() {
        Sentence.holds("edge: BAD", "tell(ab) go(0,1) edge(-1)=BAD edge(2)=BAD edge(MAX)=BAD edge(MIN)=BAD caret(1)=1");
        Sentence.holds("edge: the first STOP of its ROW (what 0): its PLACE", "tell(abcdefgh) set(0,4) set(2,1) go(0,5) edge(0)=4 caretIs(0 4 2 1 2) edge(0)=4");
        Sentence.holds("edge: the last STOP (1): its PLACE", "tell(abcdefgh) set(0,4) set(2,1) go(0,4) edge(1)=5 caretIs(0 5 3 1 3) edge(1)=5");
        Sentence.holds("edge: .. of the last ROW it is N", "tell(ab~) edge(1)=3 caretIs(0 3 2 0 2) edge(1)=3 edge(0)=0");
        Sentence.holds("edge: .. none that HANGS", "tell(abcd  ef) " + FOUR + "edge(1)=3 caretIs(0 3 3 0 3)");
        Sentence.holds("edge: .. N behind one that HANGS", "tell(abcd  ) " + FOUR + "edge(1)=6 caretIs(0 6 4 0 4) edge(0)=0");
        Sentence.holds("edge: of the ROW of N", "tell(abcdef) " + FOUR + "go(0,6) edge(0)=4 go(0,6) edge(1)=6");
        Sentence.holds("edge: of a LINE without SIGNS", "edge(0)=0 edge(1)=0 caretIs(0 0 0 0 0)");
        Sentence.holds("edge: of a later LINE", "tell(ab\ncdef\ngh) go(1,1) edge(1)=4 caretIs(1 4 4 1 4) edge(0)=0 caretIs(1 0 0 1 0)");
    }

    /** Each of these comes behind a down() by which GOAL is 3, and CARET in COLUMN 1 (of LINE 1). */
    private static void goal() {
        String apart = "tell(abc\nd\nefgh) keep(0) go(0,3) down(1)=1 caretIs(1 1 3 1 1) ";
        Sentence.holds("GOAL becomes that of CARET by go()", apart + "go(1,1)=1 caret(2)=1");
        Sentence.holds("GOAL becomes that of CARET by step()", apart + "step(0)=0 caret(2)=0", apart + "step(1)=0 caret(2)=0 step(1)=1 caret(2)=1 step(1)=2 caret(2)=2");
        Sentence.holds("GOAL becomes that of CARET by edge()", apart + "edge(1)=1 caret(2)=1", apart + "edge(0)=0 caret(2)=0");
        Sentence.holds("GOAL becomes that of CARET by type()", apart + "type('~')=2 caret(2)=1");
        Sentence.holds("GOAL becomes that of CARET by erase()", apart + "erase()=1 caret(2)=0", "tell(abc\n\nefgh) go(0,2) down(1)=1 caretIs(1 0 2 1 0) erase()=0 caretIs(0 3 3 0 3)");
        Sentence.holds("GOAL becomes that of CARET by split()", apart + "split()=4 caret(2)=0");
        Sentence.holds("GOAL becomes that of CARET by paste()", "sheet(0,0,1) lay(0,0,'x')", apart + "paste(0,0,0,1)=2 caret(2)=2");
        Sentence.holds("GOAL becomes that of CARET by undo()", "tell(abc\nd) go(1,1) type('e') go(0,3) undo() caretIs(1 1 1 1 1)");
        Sentence.holds("GOAL becomes that of CARET by redo()", "tell(abc\nd) go(1,1) type('e') undo() go(0,0) redo() caretIs(1 2 2 1 2)");
        Sentence.holds("GOAL becomes that of CARET by set()", apart + "set(0,30)=20 caret(2)=1", apart + "set(0,20) caret(2)=1");
        Sentence.holds("GOAL becomes that of CARET by set(), also of the same", apart + "set(3,2)=2 caret(2)=1");
        Sentence.holds("GOAL becomes that of CARET by back()", apart + "back(0)=3 caretIs(0 0 0 0 0)", apart + "keep(1) back(1)=3 caretIs(1 1 1 1 1)");
        Sentence.holds("GOAL becomes that of CARET by shut(), if CARET goes by that", "tell([abc\nd]) go(0,3) down(1) caretIs(1 1 3 1 1) shut(0,1) caretIs(0 0 0 0 0)");
    }

    private static void goalStays() {
        String apart = "tell(abc\nd\n[efg\nh]) keep(0) go(0,3) down(1)=1 caretIs(1 1 3 1 1) ";
        Sentence.holds("GOAL stays by down()", apart + "down(1)=2 caretIs(2 3 3 2 3) down(1)=3 caretIs(3 1 3 3 1) down(-9)=0 caretIs(0 3 3 0 3)");
        Sentence.holds("GOAL stays by shut(), if CARET does not go", apart + "shut(0,1)=0 caret(2)=3 shut(0,0)=1 caret(2)=3");
        Sentence.holds("GOAL stays by wrap(), unwrap(), keep()", apart + "wrap(0,1)=0 caret(2)=3 unwrap(0)=1 caret(2)=3 keep(1) caret(2)=3");
        Sentence.holds("GOAL stays by a FAULT", apart + "tell(!)=-10 caret(2)=3");
        Sentence.holds("GOAL stays by what is refused", apart + "go(1,2)=BAD step(2)=BAD edge(2)=BAD type('!')=BAD set(0,3)=BAD set(4,0)=BAD back(1)=STATE back(2)=BAD",
            "undo()=STATE redo()=STATE shut(1,1)=BAD paste(0,0,0,1)=-11 caretIs(1 1 3 1 1)");
        Sentence.holds("GOAL stays by step(), as there is none", "tell(abc\nd) go(0,3) down(1) step(1)=NONE caret(2)=3");
        Sentence.holds("GOAL stays by split(), as it is refused", "tell(abc\n[d\ne]) shut(0,1) go(0,3) down(1) split()=STATE caretIs(1 1 3 1 1)");
    }

    private static void theNextStop() {
        Sentence.holds("CARET at no STOP goes to the next one: behind it a MARK", "tell(~a) type('b')=3 caretIs(0 2 1 0 1)");
        Sentence.holds("CARET at no STOP goes to the next one: over MARKS", "tell(~~~) type('b')=4 caretIs(0 4 1 0 1)");
        Sentence.holds("CARET at no STOP goes to the next one: behind it one that HANGS", "tell(abc  d) " + FOUR + "go(0,3) type('x')=7 caretIs(0 6 0 1 0)");
        Sentence.holds("CARET at no STOP goes to the next one: N", "tell(abc  ) " + FOUR + "go(0,3) type('x')=6 caretIs(0 6 4 0 4)");
        Sentence.holds("CARET at no STOP goes to the next one: of its LINE", "tell(abcde \nf) go(0,5) set(0,5) caretIs(0 6 5 0 5)");
        Sentence.holds("CARET at no STOP goes to the next one: by set()", "tell(abcd e) go(0,4) set(0,4) caretIs(0 5 2 1 2) set(0,20) caretIs(0 5 5 0 5)");
        Sentence.holds("CARET at no STOP goes to the next one: by undo()", "tell(abcd e) go(0,4) type(' ') set(0,4) caretIs(0 6 2 1 2) undo() caretIs(0 5 2 1 2)");
        Sentence.holds("CARET at no STOP goes to the next one: by redo()", "tell(abcde) go(0,4) type(' ') go(0,4) undo() caret(1)=4 " + FOUR + "redo() caretIs(0 5 0 1 0)");
        Sentence.holds("CARET at no STOP goes to the next one: between LINES that became one", "tell(ab\n~~c) go(1,0) erase()=0 caretIs(0 4 2 0 2)");
        Sentence.holds("CARET at no STOP goes to the next one: by erase()", "tell(abAC de) " + FOUR + "set(2,1) go(0,4)=1 erase()=1 says(0,abA de) caretIs(0 4 0 1 0)");
        Sentence.holds("CARET stays at a STOP", "tell(abcd e) go(0,3) set(0,4) caretIs(0 3 3 0 3)");
    }
}
