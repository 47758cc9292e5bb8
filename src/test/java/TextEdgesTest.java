/** Sentences that name a boundary: Terms 1 (LINES, SIGNS, THE TAPE, FAULTS), promises 1 to 5. */
public final class TextEdgesTest {
    private static final String FORTY = "abcdefghijabcdefghijabcdefghijabcdefghij";
    private static final String ELEVEN_ENDS = "\n\n\n\n\n\n\n\n\n\n\n";
    private static final String EIGHT_FOLDS = "[[[[[[[[\n]\n]\n]\n]\n]\n]\n]\n]";

    public static void main(String[] args) {
        newObject();
        howManyThereAre();
        whatIsASign();
        theTape();
        textsThatAreTold();
        noSign();
        tooMuch();
        foldsThatCannotBe();
        theFirstMet();
        whatATextTakesAway();
        whatATextLeaves();
        theLatestFault();
        Due.end();
    }

    private static void newObject() {
        Sentence.holds("a new object: one LINE without SIGNS",
            "rule(0)=1 rule(1)=0 says(0,) line(1,0)=BAD rule(2)=1 rows(0) caretIs(0 0 0 0 0)");
        Sentence.holds("a new object: SHEETS of nothing",
            "lay(0,0,97)=-11 lay(1,0,97)=-11 lay(2,0,97)=-11 lay(3,0,97)=-11 paste(0,0,0,1)=-11 paste(3,3,0,1)=-11");
        Sentence.holds("WIDTH 20, TABS 4, MODE 2, EXTRA 2 at first", "rule(6)=20 rule(7)=4 rule(8)=2 rule(9)=2");
        Sentence.holds("a new object: nothing else is there",
            "rule(3)=0 rule(4)=0 rule(5)=0 rule(10)=0 rule(11)=0 rule(12)=0 rule(13)=0 fault()=0",
            "folds() hidden() undo()=STATE redo()=STATE back(0)=STATE back(1)=STATE");
    }

    private static void howManyThereAre() {
        Sentence.holds("LINES: 1 at least, by erase()", "erase()=NONE rule(0)=1");
        Sentence.holds("LINES: 1 at least, by a text", "text()=1 rule(0)=1 says(0,)");
        Sentence.holds("LINES: 12 at most, by split()",
            "10*split() rule(0)=11 split()=12 split()=FULL rule(0)=12 line(11,0)=0 line(12,0)=BAD");
        Sentence.holds("LINES: 12 at most, by a text", "tell(" + ELEVEN_ENDS + "x)=12 says(11,x) line(12,0)=BAD");
        Sentence.holds("SIGNS of a LINE: 0 on", "tell(\n)=2 line(0,0)=0 line(1,0)=0");
        Sentence.holds("SIGNS of a LINE: 40 at most, by type()",
            "39*type('a') type('b')=40 type('c')=FULL sign(0,39)='b' sign(0,40)=NONE");
        Sentence.holds("SIGNS of a LINE: 40 at most, by a text", "tell(" + FORTY + "\n" + FORTY + ")=2 says(1," + FORTY + ")");
        Sentence.holds("each LINE has 40 of its own",
            "tell(" + FORTY + "\nab\n" + FORTY + ") go(1,1) type('x')=3 says(0," + FORTY + ") says(1,axb) says(2," + FORTY + ")");
    }

    private static boolean isSign(int c) {
        return c == 9 || c == 32 || c == 45 || c == 126 || c > 64 && c < 91 || c > 96 && c < 123;
    }

    private static void whatIsASign() {
        for (int c = -1; c <= 260; c++) {
            String told = isSign(c) ? "1" : "BAD";
            Sentence.holds("a SIGN is a .. z, A .. Z, 32, 45, 9, 126; by type()", "type(" + c + ")=" + told);
        }
        Sentence.holds("a SIGN is no number that has its lowest bits",
            "type(353)=BAD type(65633)=BAD type(-159)=BAD type(MAX)=BAD type(MIN)=BAD line(0,0)=0");
        for (int c = 0; c <= 127; c++) {
            if (c != 10 && c != 91 && c != 93) {
                Sentence.holds("a SIGN is a .. z, A .. Z, 32, 45, 9, 126; by a text",
                    "feed(" + c + ")=1 text()=" + (isSign(c) ? "1 fault()=0 sign(0,0)=" + c : "-10 fault()=1 line(0,0)=0"));
            }
        }
    }

    private static void theTape() {
        Sentence.holds("feed: a byte (0 to 127)", "feed(0)=1 feed(127)=2 rule(12)=2");
        Sentence.holds("feed: BAD", "feed(-1)=BAD feed(128)=BAD feed(MAX)=BAD feed(MIN)=BAD rule(12)=0");
        Sentence.holds("feed: how many it has", "feed('a')=1 feed('b')=2 feed('c')=3");
        Sentence.holds("THE TAPE has 400 bytes", "399*feed('a') feed('a')=400 rule(12)=400");
        Sentence.holds("feed: FULL: more than 400", "400*feed('a') feed('a')=FULL rule(12)=400 end(400)=400 feed('a')=FULL");
        Sentence.holds("feed: BAD is ahead of FULL", "400*feed('a') feed(128)=BAD feed(-1)=BAD");
        Sentence.holds("feed: a byte less, and one comes", "400*feed('a') end(399)=400 feed('a')=400 feed('a')=FULL");
        Sentence.holds("end: how many it had", "3*feed('a') end(3)=3 end(1)=3 end(0)=1 end(0)=0");
        Sentence.holds("end: THE TAPE keeps its first n bytes",
            "feed('a') feed('b') feed('c') end(2)=3 rule(12)=2 text()=1 says(0,ab)");
        Sentence.holds("end: bytes come behind what is kept",
            "feed('a') feed('b') feed('c') end(1)=3 feed('z')=2 text()=1 says(0,az)");
        Sentence.holds("end: all may be kept", "feed('a') feed('b') end(2)=2 text()=1 says(0,ab)");
        Sentence.holds("end: none may be kept", "feed('!') end(0)=1 text()=1 says(0,)");
        Sentence.holds("end: BAD", "feed('a') end(-1)=BAD end(MIN)=BAD rule(12)=1");
        Sentence.holds("end: BAD (n above that, too)",
            "end(1)=BAD feed('a') end(2)=BAD end(400)=BAD end(MAX)=BAD rule(12)=1 end(1)=1");
        String tenLines = (FORTY + "\n").repeat(9) + FORTY.substring(0, 30);
        Sentence.holds("a text of 400 bytes", "tell(" + tenLines + "x)=10 rule(1)=391");
        Sentence.holds("places of THE TAPE from 0, to 399", "tell(" + tenLines + "!)=-409 fault()=1");
    }

    private static void textsThatAreTold() {
        Sentence.holds("text: how many LINES", "tell(a\nb\nc)=3 rule(0)=3");
        Sentence.holds("text: 10 ends a LINE (the last one is ended by the end)",
            "tell(ab\ncd)=2 says(0,ab) says(1,cd) tell(ab\n)=2 says(0,ab) says(1,)");
        Sentence.holds("text: an empty THE TAPE tells a LINE without SIGNS", "tell(ab) text()=1 says(0,) rule(1)=0");
        Sentence.holds("text: a 10 at the first place", "tell(\nab)=2 says(0,) says(1,ab)");
        Sentence.holds("text: [ begins a FOLD with its LINE", "tell(z\na[b\nc]\nd)=4 folds(1-2)",
            "tell(z\nab[\nc]\nd)=4 folds(1-2)", "tell(z\n[ab\nc]\nd)=4 folds(1-2)");
        Sentence.holds("text: ] ends it with its LINE", "tell([a\nbc]\nd)=3 folds(0-1)",
            "tell([a\n]bc\nd)=3 folds(0-1)", "tell([a\nb]c\nd)=3 folds(0-1)");
        Sentence.holds("text: ] ends the one that was begun the latest", "tell([a\n[b\nc]\nd])=4 folds(0-3 1-2)");
        Sentence.holds("text: .. and is not ended", "tell([a\n[b\nc]\nd\n[e\nf]\ng])=7 folds(0-6 1-2 4-5)");
        Sentence.holds("text: neither is a SIGN", "tell(a[b\nc]d)=2 says(0,ab) says(1,cd) rule(1)=4");
        Sentence.holds("text: a FOLD of two LINES", "tell([\n])=2 folds(0-1)");
        Sentence.holds("text: FOLDS are numbered by FIRST, of one FIRST by LAST, the greater first",
            "tell([[[a\nb]\nc]\n[d\ne]f])=5 folds(0-4 0-2 0-1 3-4)");
        Sentence.holds("text: FOLDS are OPEN at first", "tell([a\nb]) shut(0,1) tell([a\nb]) folds(0-1) hidden()");
        Sentence.holds("text: THE TAPE is empty then", "tell(ab)=1 rule(12)=0 feed('c')=1 text()=1 says(0,c)");
        Sentence.holds("text: THE TAPE is empty by a FAULT, too",
            "tell(ab!)=-12 rule(12)=0 end(1)=BAD feed('c')=1 text()=1 says(0,c)");
        Sentence.holds("text: 400 bytes come again", "tell(!!!)=-10 400*feed('a') feed('a')=FULL");
    }

    private static void noSign() {
        Sentence.holds("FAULT 1: its place from 0", "tell(!)=-10 fault()=1 tell(ab!)=-12 fault()=1 tell(a\n[b!)=-14 fault()=1");
    }

    private static void tooMuch() {
        Sentence.holds("FAULT 2: the 41st SIGN of a LINE", "tell(" + FORTY + "x)=-50 fault()=2 line(0,0)=0");
        Sentence.holds("FAULT 2: .. of any LINE", "tell(ab\n" + FORTY + "x\nc)=-53 fault()=2 rule(0)=1");
        Sentence.holds("FAULT 2: the 40th is none", "tell(" + FORTY + ")=1 fault()=0 line(0,0)=40");
        Sentence.holds("FAULT 2: [ and ] are no SIGNS",
            "tell([" + FORTY + "\n]" + FORTY + ")=2 fault()=0", "tell([" + FORTY + "\n]" + FORTY + "x)=-93 fault()=2");
        Sentence.holds("FAULT 3: the 10 behind which the 13th LINE would begin",
            "tell(" + ELEVEN_ENDS + "\n)=-21 fault()=3 rule(0)=1", "tell(a" + ELEVEN_ENDS + "bc\nd)=-24 fault()=3");
        Sentence.holds("FAULT 3: the 12th LINE may begin", "tell(" + ELEVEN_ENDS + ")=12 fault()=0");
        Sentence.holds("FAULT 4: the 9th [", "tell([[[[[[[[[)=-18 fault()=4");
        Sentence.holds("FAULT 4: the 8th is none", "tell(" + EIGHT_FOLDS + ")=9 fault()=0 rule(4)=8");
        Sentence.holds("FAULT 4: the 9th, though others are ended", "tell(" + EIGHT_FOLDS + "[\n])=-34 fault()=4",
            "tell([\n]\n[\n]\n[\n]\n[\n]\n[\n]\n[[[[)=-33 fault()=4");
        Sentence.holds("FAULT 4: counts anew in each text", "tell(" + EIGHT_FOLDS + ")=9 tell(" + EIGHT_FOLDS + ")=9",
            "tell([[[[[[[[[)=-18 tell(" + EIGHT_FOLDS + ")=9");
    }

    private static void foldsThatCannotBe() {
        Sentence.holds("FAULT 5: a ] for which none is begun", "tell(])=-10 fault()=5 tell(ab\n])=-13 fault()=5");
        Sentence.holds("FAULT 5: .. as those are ended", "tell([\n]])=-13 fault()=5 tell([[\n]\n]\n])=-17 fault()=5");
        Sentence.holds("FAULT 5: none is begun by an earlier text", "tell([a)=-12 tell(b\n])=-12 fault()=5");
        Sentence.holds("FAULT 5: a FOLD would have one LINE",
            "tell([])=-11 fault()=5 tell([a])=-12 fault()=5 tell(a\nb[]c)=-14 fault()=5 tell([a\n[b]\n])=-15 fault()=5");
        Sentence.holds("FAULT 5: it would be the same as another one",
            "tell([[a\nb]])=-16 fault()=5 tell([[a\n]\n])=3 fault()=0 tell([\n[a\nb]\n])=4 fault()=0");
        Sentence.holds("FAULT 5: it would CROSS another one", "tell([a\nb][c\nd])=-19 fault()=5 rule(0)=1",
            "tell([a\n[b\nc]][d\ne])=-23 fault()=5");
        Sentence.holds("FAULT 5: those that are apart do not CROSS", "tell([a\nb]\n[c\nd])=4 fault()=0 folds(0-1 2-3)");
        Sentence.holds("FAULT 5: those that have a FIRST or a LAST in common do not CROSS",
            "tell([[a\nb]\nc])=3 folds(0-2 0-1) tell([a\n[b\nc]])=3 folds(0-2 1-2)");
        Sentence.holds("FAULT 6: behind all (the length): a FOLD is not ended",
            "tell([)=-11 fault()=6 tell([a\nb)=-14 fault()=6 tell(ab[)=-13 fault()=6 rule(0)=1");
        Sentence.holds("FAULT 6: one of two", "tell([[a\nb])=-16 fault()=6 tell([[a\nb]\nc])=3 fault()=0");
        Sentence.holds("FAULT 6: eight of them", "tell([[[[[[[[)=-18 fault()=6");
    }

    private static void theFirstMet() {
        Sentence.holds("FAULTS: the first met, byte by byte", "tell(!])=-10 fault()=1 tell(]!)=-10 fault()=5 tell([!)=-11 fault()=1",
            "tell([]!)=-11 fault()=5 tell(]" + ELEVEN_ENDS + "\n)=-10 fault()=5 tell(" + ELEVEN_ENDS + "\n])=-21 fault()=3",
            "tell(" + FORTY + "a!)=-50 fault()=2 tell([[[[[[[[[])=-18 fault()=4");
        Sentence.holds("FAULTS: of two at one the first here", "tell(" + FORTY + "!)=-50 fault()=1");
        Sentence.holds("FAULTS: 6 behind all others", "tell([[" + ELEVEN_ENDS + "\n)=-23 fault()=3 tell([[])=-12 fault()=5");
    }

    private static void whatATextTakesAway() {
        Sentence.holds("a text that is taken: LINES in place of what there was",
            "tell(ab\ncd\nef)=3 tell(x)=1 rule(0)=1 says(0,x) line(1,0)=BAD rule(1)=1 rule(2)=1");
        Sentence.holds("a text that is taken: FOLDS in place of what there was",
            "tell([a\nb]\n[c\nd]) shut(1,1) tell(a\n[b\nc]\nd) folds(1-2) tell(a\nb\nc\nd) folds() hidden() rule(5)=0");
        Sentence.holds("a text that is taken: CARET is at PLACE 0 of LINE 0, GOAL 0",
            "tell(abc\ndef) go(1,3)=1 caretIs(1 3 3 1 3) tell(uvw\nxyz)=2 caretIs(0 0 0 0 0)",
            "go(1,2)=1 tell(abc\ndef)=2 caretIs(0 0 0 0 0) go(1,1)=1 tell(a\nb)=2 caretIs(0 0 0 0 0)");
        Sentence.holds("a text that is taken: GOAL 0, also that of down()",
            "tell(abc\nd) go(0,3) down(1) caretIs(1 1 3 1 1) tell(uvw\nxyz) caret(2)=0 down(1)=1 caret(1)=0");
        Sentence.holds("a text that is taken: none are DONE", "type('a') type('b') rule(10)=2 tell(c) rule(10)=0 undo()=STATE says(0,c)");
        Sentence.holds("a text that is taken: none are UNDONE", "type('a') undo() rule(11)=1 tell(c) rule(11)=0 redo()=STATE says(0,c)");
        Sentence.holds("a text that is taken: IMAGES are gone",
            "keep(0) keep(1) rule(13)=2 tell(a) rule(13)=0 back(0)=STATE back(1)=STATE keep(1)=0 rule(13)=1");
    }

    private static void whatATextLeaves() {
        Sentence.holds("a text that is taken: SHEETS stay",
            "sheet(0,0,1) lay(0,0,'q') sheet(3,3,2) lay(3,1,'r') tell(a)=1 paste(0,0,0,1)=2 paste(3,3,1,1)=3 says(0,qra)");
        Sentence.holds("a text that is taken tells no WIDTH, TABS, MODE, EXTRA",
            "set(0,9) set(1,3) set(2,1) set(3,5) tell(a) rule(6)=9 rule(7)=3 rule(8)=1 rule(9)=5");
        Sentence.holds("text: -10 less the place of its FAULT: that which was told stays",
            "tell(ab\n[cd\nef]\ngh) set(0,9) shut(0,1) keep(1) go(3,2) down(-2) type('x') type('y') undo() go(1,2)",
            "tell(z!)=-11 caretIs(1 2 2 1 2) says(0,abx) says(1,cd) says(2,ef) says(3,gh) folds(1-2!) rule(6)=9 rule(10)=1 rule(11)=1 rule(13)=1",
            "redo()=0 says(0,abxy) caretIs(0 4 4 0 4) back(1)=4 says(0,ab)");
        Sentence.holds("a FAULT at the end leaves all, too", "tell(ab\ncd) go(1,1) tell([x\ny\nz)=-16 says(0,ab) says(1,cd) rule(0)=2",
            "caretIs(1 1 1 1 1) folds()");
        Sentence.holds("a FAULT leaves GOAL", "tell(abc\nd) go(0,3) down(1) tell(])=-10 caretIs(1 1 3 1 1) down(-1)=0 caret(1)=3");
    }

    private static void theLatestFault() {
        Sentence.holds("fault: 0 at first", "fault()=0");
        Sentence.holds("fault: of the latest text()", "tell(!)=-10 fault()=1 fault()=1 tell(])=-10 fault()=5 tell([)=-11 fault()=6");
        Sentence.holds("fault: 0, as a text is taken", "tell(!)=-10 tell(a)=1 fault()=0 tell(!)=-10 fault()=1 text()=1 fault()=0");
        Sentence.holds("fault: other calls leave it",
            "tell(])=-10 feed('a') end(0) type('a') undo() redo() keep(0) back(0) type('!')=BAD sheet(0,0,-1)=-14 fault()=5");
    }
}
