/** Sentences that name a boundary: EDITS, DONE and UNDONE, FOLDS that follow (Terms 2), promises 19 to 23. */
public final class EditEdgesTest {
    private static final String FORTY = "abcdefghijabcdefghijabcdefghijabcdefghij";
    private static final String TWENTY = FORTY.substring(20);
    private static final String FOUR = "set(0,4) set(3,0) ";

    public static void main(String[] args) {
        type();
        erase();
        eraseAtPlaceZero();
        eraseRefused();
        split();
        splitRefused();
        doneAreSixteen();
        doneAreStates();
        undone();
        whatIsAnEdit();
        foldsThatFollowASplit();
        foldsThatFollowAJoin();
        foldsThatGo();
        Due.end();
    }

    private static void type() {
        Sentence.holds("type: SIGN c comes in at CARET: SIGNS of the LINE", "tell(ac\nz) go(0,1) type('b')=3 says(0,abc) says(1,z)");
        Sentence.holds("type: at PLACE 0", "tell(bc) type('a')=3 says(0,abc) caretIs(0 1 1 0 1)");
        Sentence.holds("type: at N", "tell(ab) go(0,2) type('c')=3 says(0,abc) caretIs(0 3 3 0 3)");
        Sentence.holds("type: in a LINE without SIGNS", "split() type('a')=1 says(0,) says(1,a) caretIs(1 1 1 1 1)");
        Sentence.holds("type: CARET is behind it then", "tell(ad) go(0,1) type('B')=3 caretIs(0 2 3 0 3) type('\t')=4 caretIs(0 3 4 0 4) type('~')=5 caretIs(0 4 4 0 4)");
        Sentence.holds("type: BAD: no SIGN", "type(10)=BAD type('[')=BAD type(']')=BAD type('!')=BAD type(0)=BAD type(-1)=BAD type(MAX)=BAD rule(10)=0 rule(1)=0");
        Sentence.holds("type: FULL: 40", "tell(" + FORTY.substring(1) + ") type('x')=40 type('y')=FULL type(' ')=FULL says(0,x" + FORTY.substring(1) + ") rule(10)=1");
        Sentence.holds("type: BAD is ahead of FULL", "tell(" + FORTY + ") type('!')=BAD type('x')=FULL");
        Sentence.holds("type: 40 of that LINE alone", "tell(" + FORTY + "\n" + FORTY.substring(1) + "\n" + FORTY + ") go(1,39) type('x')=40 type('x')=FULL");
    }

    private static void erase() {
        Sentence.holds("erase: SIGNS from the STOP ahead of CARET on up to it go: how many", "tell(abc) go(0,2) erase()=1 says(0,ac) caretIs(0 1 1 0 1)");
        Sentence.holds("erase: .. with their MARKS", "tell(ab~~c) go(0,4) erase()=3 says(0,ac) caretIs(0 1 1 0 1)");
        Sentence.holds("erase: .. MARKS with which the LINE begins", "tell(~~~a) go(0,3) erase()=3 says(0,a) caretIs(0 0 0 0 0)");
        Sentence.holds("erase: .. a MARK alone", "type('~') erase()=1 says(0,) erase()=NONE");
        Sentence.holds("erase: .. with those that HANG", "tell(abcd  e) " + FOUR + "go(0,6) erase()=3 says(0,abce) caretIs(0 3 3 0 3)");
        Sentence.holds("erase: .. with those that HANG, at N", "tell(abcd  ) " + FOUR + "go(0,6) erase()=3 says(0,abc) caretIs(0 3 3 0 3)");
        Sentence.holds("erase: .. forty SIGNS at once", "tell(a" + "~".repeat(39) + ") go(0,40) erase()=40 says(0,) rule(1)=0");
        Sentence.holds("erase: at N", "tell(ab) go(0,2) erase()=1 erase()=1 says(0,) erase()=NONE");
        Sentence.holds("erase: what is behind CARET stays", "tell(" + FORTY + "\nz) go(0,1) erase()=1 says(0," + FORTY.substring(1) + ") says(1,z)");
    }

    private static void eraseAtPlaceZero() {
        Sentence.holds("erase: at PLACE 0 the LINE becomes one with that ahead of it (0 goes)",
            "tell(ab\ncd\nef) go(1,0) erase()=0 rule(0)=2 says(0,abcd) says(1,ef) line(2,0)=BAD");
        Sentence.holds("erase: .. CARET is between them", "tell(aB\ncd) go(1,0) erase()=0 caretIs(0 2 3 0 3)");
        Sentence.holds("erase: .. LINES without SIGNS", "2*split() erase()=0 rule(0)=2 caretIs(1 0 0 1 0) erase()=0 rule(0)=1 erase()=NONE");
        Sentence.holds("erase: .. behind a LINE without SIGNS", "tell(\nab) go(1,0) erase()=0 says(0,ab) caretIs(0 0 0 0 0)");
        Sentence.holds("erase: .. a LINE without SIGNS", "tell(ab\n\nc) go(1,0) erase()=0 says(0,ab) says(1,c) caretIs(0 2 2 0 2)");
        Sentence.holds("erase: .. the last of 12", "11*split() go(11,0) erase()=0 rule(0)=11 caret(0)=10 split()=12");
        Sentence.holds("erase: .. one of 12", "tell(a\nb\nc\nd\ne\nf\ng\nh\ni\nj\nk\nl) go(5,0) erase()=0 rule(0)=11 says(4,ef) says(5,g) says(10,l) line(11,0)=BAD");
        Sentence.holds("erase: .. up to 40 SIGNS", "tell(" + TWENTY + "\n" + TWENTY + ") go(1,0) erase()=0 says(0," + FORTY + ") caret(1)=20 rule(0)=1");
    }

    private static void eraseRefused() {
        Sentence.holds("erase: STATE: that one is HIDDEN", "tell([a\nb]\nc) shut(0,1) go(2,0) erase()=STATE rule(0)=3 shut(0,0) erase()=0 rule(0)=2");
        Sentence.holds("erase: not STATE: its own LINE is a FIRST that is SHUT", "tell(z\n[a\nb]\nc) shut(0,1) go(1,0) erase()=0 rule(0)=3 folds(0-1!)");
        Sentence.holds("erase: not STATE: within its LINE", "tell([a\nb]\ncd) shut(0,1) go(2,1) erase()=1 says(2,d) erase()=STATE");
        Sentence.holds("erase: FULL: more than 40 SIGNS", "tell(" + TWENTY + "\nx" + TWENTY + ") go(1,0) erase()=FULL rule(0)=2 rule(10)=0 caretIs(1 0 0 1 0)");
        Sentence.holds("erase: FULL: forty and one", "tell(" + FORTY + "\na) go(1,0) erase()=FULL step(1)=1 erase()=1 erase()=0 says(0," + FORTY + ")");
        Sentence.holds("erase: STATE is ahead of FULL", "tell([a\n" + FORTY + "]\nb) shut(0,1) go(2,0) erase()=STATE shut(0,0) erase()=FULL");
        Sentence.holds("erase: NONE: there is none", "tell(ab\nc) erase()=NONE go(0,1) erase()=1 erase()=NONE rule(0)=2 rule(10)=1");
    }

    private static void split() {
        Sentence.holds("split: the LINE becomes two at CARET: LINES", "tell(abcd\nef) go(0,2) split()=3 says(0,ab) says(1,cd) says(2,ef)");
        Sentence.holds("split: CARET is at 0 of the latter", "tell(abcd) go(0,2) split()=2 caretIs(1 0 0 1 0)");
        Sentence.holds("split: at PLACE 0", "tell(ab\ncd) split()=3 says(0,) says(1,ab) says(2,cd) caretIs(1 0 0 1 0)");
        Sentence.holds("split: at N", "tell(ab\ncd) go(0,2) split()=3 says(0,ab) says(1,) says(2,cd) caretIs(1 0 0 1 0)");
        Sentence.holds("split: of forty SIGNS", "tell(" + FORTY + "\n" + FORTY + ") go(0,20) split()=3 says(0," + TWENTY + ") says(1," + TWENTY + ") says(2," + FORTY + ")");
        Sentence.holds("split: the last LINE", "tell(ab\ncd) go(1,1) split()=3 says(0,ab) says(1,c) says(2,d)");
        Sentence.holds("split: a MARK may be the first then", "tell(ab\n~c) go(1,0) split()=3 says(1,) says(2,~c) columns(2,0 1 2)");
    }

    private static void splitRefused() {
        Sentence.holds("split: FULL: 12", "10*split() split()=12 split()=FULL rule(0)=12 rule(10)=11 caret(0)=11 erase()=0 split()=12");
        Sentence.holds("split: STATE: a FOLD that is SHUT has it as FIRST", "tell(a\n[b\nc]\nd) shut(0,1) go(1,0) split()=STATE go(1,1) split()=STATE rule(0)=4 rule(10)=0");
        Sentence.holds("split: not STATE, as the FOLD is OPEN", "tell(a\n[b\nc]\nd) go(1,1) split()=5 folds(1-3)");
        Sentence.holds("split: not STATE, as another LINE is its FIRST", "tell(a\n[b\nc]\nd) shut(0,1) go(0,1) split()=5 folds(2-3!) go(4,0) split()=6 folds(2-3!)");
        Sentence.holds("split: not STATE, as the FOLD went", "tell([a\nb]) shut(0,1) unwrap(0) split()=3 folds()");
        Sentence.holds("split: STATE: one of two has it", "tell([[a\nb]\nc]) shut(1,1) split()=STATE shut(1,0) split()=4 folds(0-3 0-2)", "tell([[a\nb]\nc]) shut(0,1) split()=STATE");
        Sentence.holds("split: STATE is ahead of FULL", "11*split() wrap(10,11) go(10,0) split()=FULL shut(0,1) split()=STATE");
    }

    private static void doneAreSixteen() {
        Sentence.holds("DONE are STATES, the latest 16", "15*type('a') rule(10)=15 type('b')=16 rule(10)=16 type('c')=17 rule(10)=16",
            "undo()=15 line(0,0)=16 undo()=14 line(0,0)=15 undo()=13 line(0,0)=14 12*undo() rule(10)=1 undo()=0 undo()=STATE says(0,a) rule(11)=16");
        Sentence.holds("DONE are all, as there are 16", "16*type('a') rule(10)=16 15*undo() undo()=0 says(0,) undo()=STATE");
        Sentence.holds("DONE: all of UNDONE come back", "20*type('a') 16*undo() line(0,0)=4 redo()=15 14*redo() redo()=0 line(0,0)=20 redo()=STATE rule(10)=16 rule(11)=0");
        Sentence.holds("DONE: the latest 16, behind undo() too", "16*type('a') 3*undo() 2*type('b') rule(10)=15 type('c') rule(10)=16 type('d') rule(10)=16",
            "16*undo() says(0,a) rule(11)=16");
    }

    private static void doneAreStates() {
        Sentence.holds("undo: the latest of DONE takes its place: how many are left", "type('a') type('b') type('c') undo()=2 says(0,ab) undo()=1 says(0,a) undo()=0 says(0,)");
        Sentence.holds("undo: STATE: there is none", "undo()=STATE type('a') undo()=0 undo()=STATE says(0,) rule(11)=1");
        Sentence.holds("undo: .. as it was ahead of an EDIT: LINES", "tell(ab\ncd) go(1,0) erase()=0 says(0,abcd) undo()=0 rule(0)=2 says(0,ab) says(1,cd)", "go(0,1) split()=3 undo()=0 rule(0)=2 says(0,ab)");
        Sentence.holds("undo: .. as it was ahead of an EDIT: CARET", "tell(ab\ncd) go(0,1) go(1,1) type('x') go(0,0) undo()=0 caretIs(1 1 1 1 1)");
        Sentence.holds("undo: .. as it was ahead of an EDIT: FOLDS", "tell([a\nb]\n[c\nd]) go(2,0) erase()=0 folds(0-1) undo()=0 folds(0-1 2-3)");
        Sentence.holds("undo: .. (with which are SHUT)", "tell([a\nb]\nc) shut(0,1) type('x') shut(0,0) wrap(0,2) undo()=0 folds(0-1!) redo()=0 folds(0-2 0-1)");
        Sentence.holds("undo: a STATE has no WIDTH, TABS, MODE, EXTRA", "type('a') set(0,9) set(1,3) set(2,1) set(3,5) undo()=0 rule(6)=9 rule(7)=3 rule(8)=1 rule(9)=5");
        Sentence.holds("undo: of paste() all SIGNS", "sheet(0,0,3) lay(0,0,'a') lay(0,1,'b') lay(0,2,'c') paste(0,0,0,3)=3 rule(10)=1 undo()=0 says(0,)");
        Sentence.holds("undo: of erase() all SIGNS", "tell(a~~~b) go(0,4) erase()=4 undo()=0 says(0,a~~~b) caretIs(0 4 1 0 1)");
        Sentence.holds("undo: what comes behind it leaves DONE alone", "tell(ab) type('x') type('y') undo() go(0,0) type('z') undo()=1 says(0,xab) undo()=0 says(0,ab)");
    }

    private static void undone() {
        Sentence.holds("redo: the latest of UNDONE takes its place: how many are left", "type('a') type('b') type('c') 3*undo() redo()=2 says(0,a) redo()=1 says(0,ab) redo()=0 says(0,abc)");
        Sentence.holds("redo: STATE: there is none", "redo()=STATE type('a') redo()=STATE undo() redo()=0 redo()=STATE says(0,a) rule(10)=1");
        Sentence.holds("undo: the STATE that is comes to UNDONE", "tell(ab) type('x') go(0,3) undo() go(0,2) redo()=0 says(0,xab) caretIs(0 3 3 0 3) undo()=0 caretIs(0 2 2 0 2)");
        Sentence.holds("undo: the STATE that is, with its FOLDS", "tell(a\nb) type('x') wrap(0,1) shut(0,1) undo()=0 folds() redo()=0 folds(0-1!) hidden(1)");
        Sentence.holds("UNDONE: none behind an EDIT, by type()", "2*type('a') undo() rule(11)=1 type('b') rule(11)=0 redo()=STATE");
        Sentence.holds("UNDONE: none behind an EDIT, by erase()", "3*type('a') undo() erase()=1 rule(11)=0 redo()=STATE split() undo() erase()=1 rule(11)=0");
        Sentence.holds("UNDONE: none behind an EDIT, by split()", "2*type('a') undo() split()=2 rule(11)=0 redo()=STATE");
        Sentence.holds("UNDONE: none behind an EDIT, by paste()", "sheet(0,0,1) lay(0,0,'x') 2*type('a') undo() paste(0,0,0,1)=2 rule(11)=0 redo()=STATE");
        Sentence.holds("UNDONE: they stay, as an EDIT is refused", "2*type('a') 2*undo() type('!')=BAD erase()=NONE paste(0,0,0,1)=-11 rule(11)=2 redo()=1 redo()=0 says(0,aa)");
        Sentence.holds("UNDONE: they stay, as split() is refused", "tell([a\nb]) type('x') undo() shut(0,1) split()=STATE rule(11)=1 redo()=0 says(0,xa)");
        Sentence.holds("UNDONE: they stay by what is no EDIT", "tell(ab\ncd) type('x') undo() go(0,1) step(1) down(1) edge(0) wrap(0,1) shut(0,1) set(0,9) keep(0) sheet(0,0,1) lay(0,0,97)",
            "feed('a') unwrap(0) rule(11)=1 rule(10)=0 redo()=0 says(0,xab)");
    }

    private static void whatIsAnEdit() {
        Sentence.holds("EDITS are type(), erase(), split(), paste()", "type('a') rule(10)=1 erase() rule(10)=2 split() rule(10)=3 erase()=0 rule(10)=4",
            "sheet(0,0,1) lay(0,0,'x') paste(0,0,0,1) rule(10)=5");
        Sentence.holds("EDITS are no others", "tell(ab\ncd) go(0,1) step(1) down(1) edge(0) wrap(0,1) shut(0,1) shut(0,0) unwrap(0) set(0,9) keep(0) sheet(0,0,1) lay(0,0,97) feed('a') end(0)",
            "rule(10)=0 rule(11)=0");
        Sentence.holds("what is refused is no EDIT", "type('!')=BAD erase()=NONE paste(0,0,0,1)=-11 undo()=STATE redo()=STATE rule(10)=0 rule(11)=0");
    }

    private static void foldsThatFollowASplit() {
        String three = "tell(a\n[b\nc\nd]\ne) ";
        Sentence.holds("a split: LINES behind l are numbered one more, for FIRST, LAST", three + "split()=6 folds(2-4)");
        Sentence.holds("a split: FIRST, that is l, stays", three + "go(1,0) split()=6 folds(1-4)", three + "go(1,1) split()=6 folds(1-4)");
        Sentence.holds("a split: within", three + "go(2,0) split()=6 folds(1-4)");
        Sentence.holds("a split: (LAST: also l)", three + "go(3,1) split()=6 folds(1-4)", three + "go(3,0) split()=6 folds(1-4)");
        Sentence.holds("a split: behind LAST", three + "go(4,0) split()=6 folds(1-3)");
        Sentence.holds("a split: each FOLD by itself", "tell([[a\nb]\n[c\nd]]) shut(2,1) go(1,1) split()=5 folds(0-4 0-2 3-4!)");
        Sentence.holds("a split: up to LINE 11", "tell(a\nb\nc\nd\ne\nf\ng\nh\ni\n[j\nk]) split()=12 folds(10-11)");
    }

    private static void foldsThatFollowAJoin() {
        String three = "tell(y\nz\n[b\nc\nd]\ne) ";
        Sentence.holds("a join: LINES behind l are numbered one less, for FIRST, LAST", three + "go(1,0) erase()=0 folds(1-3)");
        Sentence.holds("a join: FIRST becomes one with that ahead of it", three + "go(2,0) erase()=0 folds(1-3)");
        Sentence.holds("a join: FIRST and the one behind it", three + "go(3,0) erase()=0 folds(2-3)");
        Sentence.holds("a join: LAST becomes one with that ahead of it", three + "go(4,0) erase()=0 folds(2-3)");
        Sentence.holds("a join: LAST and the one behind it", three + "go(5,0) erase()=0 folds(2-4)");
        Sentence.holds("a join: SHUT ones stay SHUT", "tell(a\nb\n[c\nd]) shut(0,1) go(1,0) erase()=0 folds(1-2!) hidden(2) go(1,0) erase()=0 folds(0-1!) hidden(1)");
        Sentence.holds("a join: those that stay are numbered by FIRST, LAST", "tell([a\n[b\nc]\nd]) go(1,0) erase()=0 folds(0-2 0-1)");
    }

    private static void foldsThatGo() {
        Sentence.holds("a join: one goes, if it has less than two LINES then", "tell([a\nb]\nc) go(1,0) erase()=0 folds() rule(4)=0 undo() folds(0-1)");
        Sentence.holds("a join: .. with two LINES it stays", "tell([a\nb\nc]) go(1,0) erase()=0 folds(0-1)");
        Sentence.holds("a join: one goes, if it is the same as one that stayed", "tell([a\n[b\nc]]) go(1,0) erase()=0 folds(0-1)", "tell([[a\nb]\nc]) go(2,0) erase()=0 folds(0-1)");
        Sentence.holds("a join: .. by the numbers that they had: the first stays, as it was", "tell([a\n[b\nc]]) shut(1,1) go(1,0) erase()=0 folds(0-1)",
            "tell([a\n[b\nc]]) shut(0,1) shut(0,0) shut(1,1) go(1,1) type('x') go(1,0) erase()=0 folds(0-1) hidden()");
        Sentence.holds("a join: one goes, if it CROSSES one that stayed", "tell([a\nb]\n[c\nd]) go(2,0) erase()=0 folds(0-1)");
        Sentence.holds("a join: .. two of them", "tell([a\nb]\n[[c\nd]\ne]) go(2,0) erase()=0 folds(0-1)");
        Sentence.holds("a join: .. not, if that one did not stay", "tell([a\nb]\n[c\nd]) go(1,0) erase()=0 folds(1-2)", "tell(z\n[a\nb\n[c\nd]]\n[e\nf]) go(4,0) erase()=0 folds(1-3 4-5)");
        Sentence.holds("a join: those that come to touch a LINE do not CROSS", "tell([a\nb\n[c\nd]]\ne) go(2,0) erase()=0 folds(0-2 1-2)");
        Sentence.holds("a join: a FOLD that went comes back by none", "tell([a\nb\nc]\nd) unwrap(0) go(3,0) erase()=0 folds() tell([a\n[b\nc]\nd]\ne) unwrap(0) go(4,0) erase()=0 folds(1-2)");
        Sentence.holds("a join: eight FOLDS", "tell([[[[[[[[a\nb]\nc]\nd]\ne]\nf]\ng]\nh]\ni]) go(1,0) erase()=0 folds(0-7 0-6 0-5 0-4 0-3 0-2 0-1) undo() rule(4)=8");
    }
}
