/** "What is refused changes nothing (but THE TAPE, as told)", and the answers' order: "the first that fits". */
public final class RefusedTest {
    private static final String FORTY = "abcdefghijabcdefghijabcdefghijabcdefghij";
    /**
     * CARET at PLACE 1 of LINE 1, the FIRST of a FOLD that is SHUT, in ROW 2, COLUMN 1, GOAL 5; two are DONE, one UNDONE;
     * IMAGE 0 is there; SHEET 0 has three BYTES, 1 no INTS; two bytes on THE TAPE; FAULT 5.
     */
    private static final String BUSY = "tell(a\tb~\n[e\ngh]\ni) tell(])=-10 set(0,6) shut(0,1) keep(0) go(0,2) 3*type('q') undo() "
        + "sheet(0,0,3) lay(0,0,'x') lay(0,1,'!') lay(0,2,'y') sheet(1,3,0) go(0,6)=1 down(1)=2 feed('z') feed('[') ";

    public static void main(String[] args) {
        Sentence.holds("the object is as told", BUSY + "caretIs(1 1 5 2 1) rule(10)=2 rule(11)=1 rule(12)=2 rule(13)=1 fault()=5 hidden(2)");
        theTape();
        theCaret();
        edits();
        doneAndUndone();
        folds();
        settings();
        images();
        sheets();
        pastes();
        aFault();
        asking();
        theOrder();
        Due.end();
    }

    private static void leaves(String... calls) {
        for (String call : calls) {
            Sentence.refuses("what is refused changes nothing", BUSY, call);
        }
    }

    private static void leavesWhen(String rows, String... calls) {
        for (String call : calls) {
            Sentence.refuses("what is refused changes nothing", rows, call);
        }
    }

    private static void theTape() {
        leaves("feed(-1)=BAD", "feed(128)=BAD", "feed(MAX)=BAD", "end(-1)=BAD", "end(3)=BAD", "end(MAX)=BAD");
        leavesWhen("400*feed('a') ", "feed('b')=FULL", "feed(128)=BAD", "end(401)=BAD");
    }

    private static void theCaret() {
        leaves("go(-1,0)=BAD", "go(4,0)=BAD", "go(1,2)=BAD", "go(0,-1)=BAD", "go(2,0)=STATE", "go(0,5)=STATE", "go(0,7)=BAD", "step(-1)=BAD", "step(2)=BAD",
            "down(MAX)=FULL", "edge(-1)=BAD", "edge(2)=BAD");
        leavesWhen("tell(ab\n~~c) go(0,2) down(1) ", "go(1,1)=STATE", "step(2)=BAD");
        leavesWhen("tell(abc\nd) go(0,3) down(1) ", "step(1)=NONE");
        leavesWhen("tell(~a\nb) type('x') undo() ", "step(0)=NONE");
        leavesWhen("tell(abc\n[d\ne]) shut(0,1) go(0,3) down(1) ", "step(1)=NONE", "down(MAX)=FULL", "down(2147483647)=FULL");
    }

    private static void edits() {
        leaves("type(33)=BAD", "type(10)=BAD", "type('[')=BAD", "split()=STATE");
        leavesWhen("tell(" + FORTY + ") go(0,7) ", "type('x')=FULL", "type('!')=BAD");
        leavesWhen("type('a') go(0,0) ", "erase()=NONE");
        leavesWhen("tell([a\nb]\nc) shut(0,1) type('x') go(2,0) ", "erase()=STATE");
        leavesWhen("tell(" + FORTY.substring(20) + "\nx" + FORTY.substring(20) + ") go(1,0) ", "erase()=FULL");
        leavesWhen("8*split() tell(a\nb\nc\nd\ne\nf\ng\nh\ni\nj\nk\nl) wrap(3,5) go(5,1) ", "split()=FULL");
        leavesWhen("2*type('a') undo() split() undo() wrap(0,1)=BAD go(0,0) ", "erase()=NONE", "type(0)=BAD", "paste(0,0,0,1)=-11");
    }

    private static void doneAndUndone() {
        leavesWhen("tell(abc\nd) go(0,3) down(1) ", "undo()=STATE", "redo()=STATE");
        leavesWhen("2*type('a') 2*undo() ", "undo()=STATE");
        leavesWhen("2*type('a') keep(1) ", "redo()=STATE");
    }

    private static void folds() {
        leaves("wrap(0,0)=BAD", "wrap(1,0)=BAD", "wrap(0,4)=BAD", "wrap(-1,1)=BAD", "wrap(1,2)=STATE", "wrap(0,1)=STATE", "wrap(2,3)=STATE",
            "shut(1,1)=BAD", "shut(-1,1)=BAD", "shut(0,2)=BAD", "shut(0,-1)=BAD", "unwrap(1)=BAD", "unwrap(-1)=BAD");
        leavesWhen("tell([[[[[[[[a\nb\nc]\nd]\ne]\nf]\ng]\nh]\ni]\nj]) shut(7,1) ", "wrap(0,1)=FULL", "wrap(1,2)=FULL", "wrap(0,4)=STATE", "wrap(2,3)=STATE", "wrap(2,2)=BAD", "unwrap(8)=BAD", "shut(8,0)=BAD");
    }

    private static void settings() {
        leaves("set(0,3)=BAD", "set(0,41)=BAD", "set(1,0)=BAD", "set(1,9)=BAD", "set(2,-1)=BAD", "set(2,3)=BAD", "set(3,-1)=BAD", "set(3,8)=BAD", "set(4,4)=BAD", "set(-1,4)=BAD");
    }

    private static void images() {
        leaves("keep(-1)=BAD", "keep(2)=BAD", "back(-1)=BAD", "back(2)=BAD", "back(1)=STATE");
    }

    private static void sheets() {
        leaves("sheet(-1,0,1)=BAD", "sheet(4,0,1)=BAD", "sheet(0,-1,1)=BAD", "sheet(0,4,1)=BAD", "sheet(0,0,21)=BAD", "sheet(0,0,-1)=-14", "sheet(2,0,-1)=-14", "sheet(2,1,21)=BAD");
        leaves("lay(-1,0,97)=BAD", "lay(4,0,97)=BAD", "lay(2,0,97)=-11", "lay(0,3,97)=-13", "lay(0,-1,97)=-13", "lay(1,0,97)=-13");
    }

    private static void pastes() {
        leaves("paste(-1,0,0,1)=BAD", "paste(4,0,0,1)=BAD", "paste(0,4,0,1)=BAD", "paste(0,-1,0,1)=BAD", "paste(0,0,0,0)=BAD", "paste(0,0,0,21)=BAD",
            "paste(2,0,0,1)=-11", "paste(0,1,0,1)=-12", "paste(0,0,3,1)=-13", "paste(0,0,-1,1)=-13", "paste(0,0,2,2)=-13", "paste(0,0,0,2)=-21", "paste(0,0,1,1)=-20");
        leavesWhen("sheet(0,0,2) lay(0,0,'x') lay(0,1,'y') tell(" + FORTY.substring(1) + ") go(0,7) ", "paste(0,0,0,2)=FULL");
    }

    /** But THE TAPE: it is empty then, and fault() tells of it; so both are made the same ahead of the look. */
    private static void aFault() {
        for (String text : new String[] {"!", "xy!", "]", "[x]", "x\n[y", "[[x\ny]]z", FORTY + "x", "[[[[[[[[["}) {
            Sentence.refuses("a FAULT: that which was told stays", BUSY + "end(0) tell(!)=-10 ", "end(0)=0 tell(" + text + ")=" + answer(text) + " tell(!)=-10");
        }
    }

    private static int answer(String text) {
        return Due.tell(new FoldedRows(), text);
    }

    private static void asking() {
        String[] calls = {"fault()=5", "rule(2)=4", "rule(14)=BAD", "sign(0,0)='a'", "sign(0,99)=NONE", "sign(9,0)=BAD", "line(2,2)=NONE", "line(0,7)=BAD", "row(1,0)=0", "row(9,0)=BAD",
            "cell(0,0)=0", "cell(0,99)=NONE", "cell(9,0)=BAD", "at(2,0,0)=NONE", "at(0,0,9)=BAD", "to(2,MAX)=1", "to(9,0)=BAD", "fold(0,3)=0", "fold(1,0)=BAD", "caret(2)=5", "caret(5)=BAD"};
        for (String call : calls) {
            Sentence.refuses("what asks changes nothing", BUSY, call);
        }
    }

    /** "BAD, STATE, FULL, NONE, the first that fits". */
    private static void theOrder() {
        Sentence.holds("BAD is ahead of FULL", "400*feed('a') feed(128)=BAD end(0)", "tell(" + FORTY + ") type('!')=BAD type('a')=FULL");
        Sentence.holds("BAD is ahead of STATE", "tell([a\nb]) shut(0,1) go(1,2)=BAD go(1,1)=STATE back(2)=BAD back(1)=STATE wrap(1,1)=BAD wrap(0,1)=STATE");
        Sentence.holds("BAD is ahead of NONE", "tell([a\nb]) shut(0,1) at(1,2,0)=BAD at(1,1,0)=NONE line(1,7)=BAD line(1,2)=NONE sign(2,0)=BAD sign(1,1)=NONE cell(1,0)=BAD cell(0,1)=NONE step(2)=BAD");
        Sentence.holds("STATE is ahead of FULL", "11*split() wrap(0,1) shut(0,1) go(0,0) split()=STATE shut(0,0) split()=FULL",
            "tell([a\n" + FORTY + "]\nb) shut(0,1) go(2,0) erase()=STATE shut(0,0) erase()=FULL",
            "tell([[[[[[[[a\nb\nc]\nd]\ne]\nf]\ng]\nh]\ni]\nj]) wrap(0,8)=STATE wrap(1,2)=FULL");
        Sentence.holds("BAD is ahead of a FAULT", "sheet(0,4,-1)=BAD lay(4,-1,0)=BAD paste(0,4,0,1)=BAD paste(0,0,0,0)=BAD");
        Sentence.holds("a FAULT is ahead of FULL", "tell(" + FORTY + ") paste(0,0,0,1)=-11 sheet(0,0,1) paste(0,1,0,1)=-12 paste(0,0,1,1)=-13 paste(0,0,0,1)=-20 lay(0,0,'a') paste(0,0,0,1)=FULL");
    }
}
