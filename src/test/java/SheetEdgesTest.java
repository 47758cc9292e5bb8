/** Sentences that name a boundary: IMAGES, SHEETS (Terms 2), promises 28 to 32. */
public final class SheetEdgesTest {
    private static final String FORTY = "abcdefghijabcdefghijabcdefghijabcdefghij";

    public static void main(String[] args) {
        keep();
        back();
        sheet();
        sheetsAreApart();
        lay();
        lowestBits();
        paste();
        pasteIsBad();
        pasteFaults();
        pasteFirstMet();
        pasteFull();
        Due.end();
    }

    private static void keep() {
        Sentence.holds("keep: IMAGE k (0, 1): whether there was one (1, 0)", "keep(0)=0 keep(0)=1 keep(1)=0 keep(1)=1 keep(0)=1 rule(13)=2");
        Sentence.holds("keep: BAD", "keep(-1)=BAD keep(2)=BAD keep(MAX)=BAD keep(MIN)=BAD rule(13)=0");
        Sentence.holds("keep: LINES, FOLDS, CARET", "tell(ab\n[cd\nef]) shut(0,1) go(1,1) keep(0) shut(0,0) go(2,2) split() type('x')",
            "back(0)=3 says(0,ab) says(1,cd) says(2,ef) folds(1-2!) caretIs(1 1 1 1 1)");
        Sentence.holds("keep: WIDTH, TABS, MODE, EXTRA", "set(0,9) set(1,3) set(2,1) set(3,5) keep(1) set(0,10) set(1,4) set(2,2) set(3,6) back(1) rule(6)=9 rule(7)=3 rule(8)=1 rule(9)=5");
        Sentence.holds("keep: in place of the one that there was", "type('a') keep(0)=0 type('b') keep(0)=1 type('c') back(0)=1 says(0,ab)");
        Sentence.holds("keep: each for itself", "type('a') keep(0) type('b') keep(1) type('c') back(0)=1 says(0,a) back(1)=1 says(0,ab) back(0) says(0,a)");
        Sentence.holds("keep: what comes later leaves it", "type('a') keep(0) erase() split() wrap(0,1) undo() undo() redo() back(0)=1 says(0,a) folds() rule(4)=0");
        Sentence.holds("keep: DONE and UNDONE stay", "2*type('a') undo() keep(0) rule(10)=1 rule(11)=1 redo()=0 says(0,aa)");
    }

    private static void back() {
        Sentence.holds("back: LINES", "2*split() keep(0) split() back(0)=3 rule(0)=3");
        Sentence.holds("back: BAD", "keep(0) keep(1) back(-1)=BAD back(2)=BAD back(MAX)=BAD back(MIN)=BAD");
        Sentence.holds("back: STATE: there is none", "back(0)=STATE back(1)=STATE keep(1) back(0)=STATE back(1)=1");
        Sentence.holds("back: STATE: .. as a text took it", "keep(0) tell(a) back(0)=STATE");
        Sentence.holds("back: BAD is ahead of STATE", "back(2)=BAD back(-1)=BAD");
        Sentence.holds("back: none are DONE or UNDONE", "keep(0) 3*type('a') undo() rule(10)=2 rule(11)=1 back(0)=1 rule(10)=0 rule(11)=0 undo()=STATE redo()=STATE says(0,)");
        Sentence.holds("back: the IMAGE is there still", "type('a') keep(0) type('b') back(0) rule(13)=1 type('c') back(0)=1 says(0,a)");
        Sentence.holds("back: EDITS behind it are DONE", "type('a') keep(0) back(0) type('b') undo()=0 says(0,a)");
        Sentence.holds("back: SHEETS, THE TAPE stay", "keep(0) sheet(0,0,1) lay(0,0,'x') feed('a') back(0) rule(12)=1 paste(0,0,0,1)=1");
        Sentence.holds("back: a FAULT's text leaves IMAGES", "type('a') keep(0) tell(!)=-10 rule(13)=1 type('b') back(0)=1 says(0,a)");
    }

    private static void sheet() {
        Sentence.holds("sheet: a new row: 1", "sheet(0,0,3)=1 sheet(1,1,3)=1 sheet(2,2,3)=1 sheet(3,3,3)=1");
        Sentence.holds("sheet: .. of n CELLS, 0 to 20", "sheet(0,0,0)=1 lay(0,0,1)=-13 sheet(0,0,1)=1 lay(0,0,1)=1 lay(0,1,1)=-13 sheet(0,0,20)=1 lay(0,19,1)=1 lay(0,20,1)=-13");
        Sentence.holds("sheet: .. of CELLS 0", "sheet(0,3,2) lay(0,0,'a') lay(0,1,'b') paste(0,3,0,2)=2 sheet(0,3,2)=1 paste(0,3,0,1)=-20 paste(0,3,1,1)=-20");
        Sentence.holds("sheet: BAD: k", "sheet(-1,0,1)=BAD sheet(4,0,1)=BAD sheet(MAX,0,1)=BAD sheet(MIN,0,1)=BAD");
        Sentence.holds("sheet: BAD: lane", "sheet(0,-1,1)=BAD sheet(0,4,1)=BAD sheet(0,MAX,1)=BAD sheet(0,MIN,1)=BAD lay(0,0,1)=-11");
        Sentence.holds("sheet: BAD: also n above 20", "sheet(0,0,21)=BAD sheet(0,0,MAX)=BAD lay(0,0,1)=-11 sheet(0,0,20)=1");
        Sentence.holds("sheet: -14 (SIZE): n below 0", "sheet(0,0,-1)=-14 sheet(0,0,MIN)=-14 lay(0,0,1)=-11 sheet(0,0,0)=1 lay(0,0,1)=-13");
        Sentence.holds("sheet: BAD is ahead of SIZE", "sheet(4,0,-1)=BAD sheet(0,4,-1)=BAD sheet(-1,-1,-1)=BAD");
        Sentence.holds("sheet: a refused one leaves the row that there was", "sheet(0,0,2) lay(0,1,'a') sheet(0,1,-1)=-14 sheet(0,1,21)=BAD sheet(0,4,1)=BAD paste(0,0,1,1)=1 says(0,a)");
        Sentence.holds("sheet: of another lane", "sheet(0,0,2) lay(0,0,'a') sheet(0,2,1)=1 paste(0,0,0,1)=-12 lay(0,1,'a')=-13 lay(0,0,'b')=1 paste(0,2,0,1)=1");
    }

    private static void sheetsAreApart() {
        Sentence.holds("SHEETS 0 to 3: each for itself", "sheet(0,0,1) sheet(1,1,2) sheet(2,2,3) sheet(3,3,4) lay(0,0,'a') lay(1,1,'b') lay(2,2,'c') lay(3,3,'d')",
            "paste(3,3,3,1) paste(2,2,2,1) paste(1,1,1,1) paste(0,0,0,1)=4 says(0,dcba)");
        Sentence.holds("SHEETS 0 to 3: nothing at first", "sheet(1,0,2) lay(0,0,1)=-11 lay(2,0,1)=-11 lay(3,0,1)=-11 lay(1,0,1)=1");
    }

    private static void lay() {
        Sentence.holds("lay: CELL i of a SHEET becomes v: 1", "sheet(0,3,3) lay(0,1,'b')=1 paste(0,3,1,1)=1 paste(0,3,0,1)=-20 paste(0,3,2,1)=-20");
        Sentence.holds("lay: BAD: k", "lay(-1,0,1)=BAD lay(4,0,1)=BAD lay(MAX,0,1)=BAD lay(MIN,0,1)=BAD");
        Sentence.holds("lay: NULL", "lay(0,0,1)=-11 sheet(0,0,1) lay(0,0,1)=1 lay(1,0,1)=-11");
        Sentence.holds("lay: NULL is ahead of INDEX", "lay(0,-1,1)=-11 lay(0,20,1)=-11 lay(0,MAX,1)=-11");
        Sentence.holds("lay: INDEX", "sheet(0,0,3) lay(0,2,1)=1 lay(0,3,1)=-13 lay(0,-1,1)=-13 lay(0,20,1)=-13 lay(0,MAX,1)=-13 lay(0,MIN,1)=-13");
        Sentence.holds("lay: INDEX of a row that is shorter than the one before", "sheet(0,0,9) lay(0,8,1) sheet(0,0,3) lay(0,3,1)=-13 lay(0,8,1)=-13");
    }

    private static void lowestBits() {
        Sentence.holds("lay: BYTES: the lowest 8 bits", "sheet(0,0,4) lay(0,0,353) lay(0,1,-159) lay(0,2,65633) lay(0,3,97) paste(0,0,0,4)=4 says(0,aaaa)");
        Sentence.holds("lay: CHARS: the lowest 16 bits", "sheet(0,1,3) lay(0,0,65633) lay(0,1,-65439) lay(0,2,353) paste(0,1,0,2)=2 paste(0,1,2,1)=-20 says(0,aa)");
        Sentence.holds("lay: SHORTS: the lowest 16 bits", "sheet(0,2,3) lay(0,0,65633) lay(0,1,-65439) lay(0,2,353) paste(0,2,0,2)=2 paste(0,2,2,1)=-20 says(0,aa)");
        Sentence.holds("lay: INTS: all bits", "sheet(0,3,4) lay(0,0,65633) lay(0,1,-159) lay(0,2,353) lay(0,3,97) paste(0,3,0,1)=-20 paste(0,3,1,1)=-20 paste(0,3,2,1)=-20 paste(0,3,3,1)=1");
        Sentence.holds("BYTES, SHORTS have a sign, CHARS have none: no SIGNS all", "sheet(0,0,1) lay(0,0,225) paste(0,0,0,1)=-20 sheet(1,1,1) lay(1,0,-1) paste(1,1,0,1)=-20 sheet(2,2,1) lay(2,0,65535) paste(2,2,0,1)=-20");
    }

    private static void paste() {
        String four = "sheet(0,0,20) lay(0,0,'a') lay(0,1,'B') lay(0,2,'c') lay(0,19,'z') ";
        Sentence.holds("paste: n SIGNS come in at CARET, from CELL f on: SIGNS of the LINE", four + "tell(xy) go(0,1) paste(0,0,1,2)=4 says(0,xBcy)");
        Sentence.holds("paste: CARET is behind them then", four + "tell(xy) go(0,1) paste(0,0,0,3)=5 caretIs(0 4 5 0 5)");
        Sentence.holds("paste: n 1, the last CELL", four + "paste(0,0,19,1)=1 says(0,z)");
        Sentence.holds("paste: one EDIT", four + "paste(0,0,0,3)=3 rule(10)=1 undo()=0 says(0,)");
        Sentence.holds("paste: n 20", "sheet(0,3,20) lay(0,0,97) lay(0,1,97) lay(0,2,97) lay(0,3,97) lay(0,4,97) lay(0,5,97) lay(0,6,97) lay(0,7,97) lay(0,8,97) lay(0,9,97)",
            "lay(0,10,98) lay(0,11,98) lay(0,12,98) lay(0,13,98) lay(0,14,98) lay(0,15,98) lay(0,16,98) lay(0,17,98) lay(0,18,98) lay(0,19,98)",
            "paste(0,3,0,20)=20 paste(0,3,0,20)=40 paste(0,3,0,1)=FULL says(0,aaaaaaaaaabbbbbbbbbbaaaaaaaaaabbbbbbbbbb)");
        Sentence.holds("paste: the SHEET stays as it was", four + "paste(0,0,0,3)=3 paste(0,0,0,3)=6 says(0,aBcaBc)");
        Sentence.holds("paste: in a later LINE", four + "tell(x\ny\nz) go(1,1) paste(0,0,0,3)=4 says(0,x) says(1,yaBc) says(2,z)");
    }

    private static void pasteIsBad() {
        String one = "sheet(0,0,20) lay(0,0,'a') ";
        Sentence.holds("paste: BAD: k", one + "paste(-1,0,0,1)=BAD paste(4,0,0,1)=BAD paste(MAX,0,0,1)=BAD paste(MIN,0,0,1)=BAD");
        Sentence.holds("paste: BAD: lane", one + "paste(0,-1,0,1)=BAD paste(0,4,0,1)=BAD paste(0,MAX,0,1)=BAD paste(0,MIN,0,1)=BAD");
        Sentence.holds("paste: BAD: n", one + "paste(0,0,0,0)=BAD paste(0,0,0,-1)=BAD paste(0,0,0,21)=BAD paste(0,0,0,MAX)=BAD paste(0,0,0,MIN)=BAD paste(0,0,0,1)=1");
        Sentence.holds("paste: BAD is ahead of FAULTS", "paste(0,4,0,1)=BAD paste(0,0,0,0)=BAD paste(0,0,0,21)=BAD sheet(0,0,1) paste(0,4,0,1)=BAD paste(0,0,9,21)=BAD paste(0,1,0,0)=BAD");
        Sentence.holds("paste: BAD is ahead of FULL", one + "tell(" + FORTY + ") paste(0,0,0,21)=BAD paste(0,0,0,1)=FULL");
    }

    private static void pasteFaults() {
        Sentence.holds("paste: NULL", "paste(0,0,0,1)=-11 paste(3,3,19,20)=-11 rule(10)=0");
        Sentence.holds("paste: CAST: taken as of another lane", "sheet(0,0,1) paste(0,1,0,1)=-12 paste(0,2,0,1)=-12 paste(0,3,0,1)=-12 paste(0,0,0,1)=-20",
            "sheet(0,1,1) paste(0,0,0,1)=-12 paste(0,2,0,1)=-12 paste(0,3,0,1)=-12 paste(0,1,0,1)=-20",
            "sheet(0,2,1) paste(0,0,0,1)=-12 paste(0,1,0,1)=-12 paste(0,3,0,1)=-12 paste(0,2,0,1)=-20",
            "sheet(0,3,1) paste(0,0,0,1)=-12 paste(0,1,0,1)=-12 paste(0,2,0,1)=-12 paste(0,3,0,1)=-20");
        Sentence.holds("paste: INDEX", "sheet(0,0,2) lay(0,0,'a') lay(0,1,'b') paste(0,0,2,1)=-13 paste(0,0,-1,1)=-13 paste(0,0,MAX,1)=-13 paste(0,0,MIN,1)=-13 paste(0,0,1,1)=1");
        Sentence.holds("paste: INDEX, wherever f and n go beyond 32 bits", "sheet(0,0,2) lay(0,0,'a') paste(0,0,MAX,20)=-13 paste(0,0,2147483646,5)=-13 paste(0,0,MIN,20)=-13 paste(0,0,-20,20)=-13 rule(10)=0");
        Sentence.holds("paste: INDEX behind SIGNS", "sheet(0,0,2) lay(0,0,'a') lay(0,1,'b') paste(0,0,0,3)=-13 paste(0,0,1,2)=-13 paste(0,0,0,20)=-13 says(0,) paste(0,0,0,2)=2");
        Sentence.holds("paste: INDEX of a row of none", "sheet(0,0,0) paste(0,0,0,1)=-13");
        Sentence.holds("paste: -20 less i (0 on): the i-th is no SIGN", "sheet(0,3,20) paste(0,3,0,1)=-20 lay(0,0,'a') paste(0,3,0,2)=-21 lay(0,1,'b') paste(0,3,0,20)=-22 paste(0,3,1,2)=-21 says(0,) rule(10)=0");
        Sentence.holds("paste: .. the i-th from f on", "sheet(0,3,20) lay(0,5,'a') lay(0,6,'b') lay(0,7,'c') paste(0,3,5,4)=-23 paste(0,3,6,3)=-22 paste(0,3,5,3)=3");
        Sentence.holds("paste: .. 10, [, ] are no SIGNS", "sheet(0,0,3) lay(0,0,10) lay(0,1,91) lay(0,2,93) paste(0,0,0,1)=-20 paste(0,0,1,1)=-20 paste(0,0,2,1)=-20");
        for (int c = -1; c <= 128; c++) {
            boolean sign = c == 9 || c == 32 || c == 45 || c == 126 || c > 64 && c < 91 || c > 96 && c < 123;
            Sentence.holds("paste: .. no SIGN", "sheet(0,3,1) lay(0,0," + c + ") paste(0,3,0,1)=" + (sign ? 1 : -20));
        }
    }

    private static void pasteFirstMet() {
        Sentence.holds("a FAULT: NULL ahead of all", "paste(0,3,-1,20)=-11 paste(0,0,MAX,1)=-11");
        Sentence.holds("a FAULT: CAST ahead of INDEX", "sheet(0,0,1) paste(0,1,1,1)=-12 paste(0,1,-1,20)=-12 sheet(0,0,0) paste(0,3,0,1)=-12");
        Sentence.holds("a FAULT: CAST ahead of no SIGN", "sheet(0,0,1) paste(0,2,0,1)=-12");
        Sentence.holds("taken one by one: no SIGN, then INDEX", "sheet(0,0,2) lay(0,0,'a') paste(0,0,0,3)=-21 paste(0,0,1,2)=-20");
        Sentence.holds("taken one by one: INDEX, then no SIGN", "sheet(0,0,2) paste(0,0,-1,3)=-13 lay(0,0,'a') lay(0,1,'b') paste(0,0,0,3)=-13");
    }

    private static void pasteFull() {
        String two = "sheet(0,0,3) lay(0,0,'x') lay(0,1,'y') ";
        Sentence.holds("paste: FULL: more than 40", two + "tell(" + FORTY.substring(1) + ") paste(0,0,0,2)=FULL rule(10)=0 line(0,0)=39 paste(0,0,0,1)=40 paste(0,0,0,1)=FULL");
        Sentence.holds("paste: up to 40", two + "tell(" + FORTY.substring(2) + ") paste(0,0,0,2)=40 says(0,xy" + FORTY.substring(2) + ")");
        Sentence.holds("paste: FULL, behind these", two + "tell(" + FORTY + ") paste(1,0,0,1)=-11 paste(0,1,0,1)=-12 paste(0,0,3,1)=-13 paste(0,0,-1,1)=-13 paste(0,0,2,1)=-20 paste(0,0,0,3)=-22 paste(0,0,0,1)=FULL");
    }
}
