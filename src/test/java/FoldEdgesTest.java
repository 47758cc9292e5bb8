/** Sentences that name a boundary: FOLDS, settings (Terms 1), promises 24 to 27. */
public final class FoldEdgesTest {
    private static final String TWELVE = "11*split() ";

    public static void main(String[] args) {
        wrap();
        wrapRefused();
        wrapOrder();
        cross();
        shut();
        shutAndCaret();
        unwrap();
        set();
        setLaysAnew();
        Due.end();
    }

    private static void wrap() {
        Sentence.holds("wrap: a FOLD more, of LINES a to b: its number", TWELVE + "wrap(3,5)=0 folds(3-5) wrap(0,1)=0 folds(0-1 3-5) wrap(7,8)=2 folds(0-1 3-5 7-8)");
        Sentence.holds("wrap: OPEN", TWELVE + "wrap(3,5)=0 fold(0,2)=0 hidden() rule(5)=0");
        Sentence.holds("wrap: OPEN, where a SHUT one was", "split() wrap(0,1)=0 shut(0,1)=0 unwrap(0)=0 wrap(0,1)=0 fold(0,2)=0 hidden()");
        Sentence.holds("wrap: OPEN, ahead of a SHUT one", TWELVE + "wrap(3,5)=0 shut(0,1) wrap(0,1)=0 folds(0-1 3-5!)");
        Sentence.holds("wrap: of the first LINE and the last one", TWELVE + "wrap(0,11)=0 folds(0-11)", "wrap(10,11)=1 wrap(0,1)=1 folds(0-11 0-1 10-11)");
        Sentence.holds("wrap: of LINES that are HIDDEN", "tell([a\nb\nc]) shut(0,1) wrap(1,2)=1 folds(0-2! 1-2) hidden(1 2)");
    }

    private static void wrapRefused() {
        Sentence.holds("wrap: BAD: no such LINE", "split() wrap(0,2)=BAD wrap(1,2)=BAD wrap(-1,1)=BAD wrap(-2,-1)=BAD wrap(0,MAX)=BAD wrap(MIN,1)=BAD wrap(2,3)=BAD rule(4)=0");
        Sentence.holds("wrap: BAD: also b not greater", "split() wrap(0,0)=BAD wrap(1,1)=BAD wrap(1,0)=BAD wrap(1,MIN)=BAD wrap(MAX,1)=BAD rule(4)=0");
        Sentence.holds("wrap: STATE: it is the same as one", "split() wrap(0,1)=0 wrap(0,1)=STATE shut(0,1) wrap(0,1)=STATE rule(4)=1");
        Sentence.holds("wrap: STATE: .. as one that is not the first", TWELVE + "wrap(0,5) wrap(2,3)=1 wrap(2,3)=STATE wrap(7,8)=2 wrap(7,8)=STATE rule(4)=3");
        Sentence.holds("wrap: STATE: it CROSSES one", TWELVE + "wrap(3,6) wrap(2,3)=STATE wrap(2,5)=STATE wrap(4,7)=STATE wrap(6,7)=STATE rule(4)=1");
        Sentence.holds("wrap: FULL: 8", TWELVE + "wrap(0,11) wrap(0,10) wrap(0,9) wrap(0,8) wrap(0,7) wrap(0,6) wrap(0,5)=6 wrap(0,4)=7 wrap(0,3)=FULL rule(4)=8 unwrap(7)=7 wrap(0,3)=7");
        Sentence.holds("wrap: FULL, also of those that are apart", TWELVE + "wrap(0,1) wrap(2,3) wrap(4,5) wrap(6,7) wrap(8,9) wrap(10,11)=5 wrap(0,3)=0 wrap(4,7)=3 wrap(8,11)=FULL rule(4)=8");
        Sentence.holds("wrap: BAD is ahead of STATE, of FULL", TWELVE + "wrap(0,11) wrap(0,10) wrap(0,9) wrap(0,8) wrap(0,7) wrap(0,6) wrap(0,5) wrap(0,4) wrap(3,3)=BAD wrap(0,12)=BAD");
        Sentence.holds("wrap: STATE is ahead of FULL", TWELVE + "wrap(0,11) wrap(0,10) wrap(0,9) wrap(0,8) wrap(0,7) wrap(0,6) wrap(0,5) wrap(0,4) wrap(0,4)=STATE wrap(4,5)=STATE wrap(1,2)=FULL");
    }

    private static void wrapOrder() {
        Sentence.holds("FOLDS are numbered by FIRST", TWELVE + "wrap(6,7)=0 wrap(4,5)=0 wrap(8,9)=2 wrap(5,5)=BAD wrap(2,3)=0 folds(2-3 4-5 6-7 8-9)");
        Sentence.holds("FOLDS are numbered: of one FIRST by LAST, the greater first", TWELVE + "wrap(2,5)=0 wrap(2,4)=1 wrap(2,6)=0 wrap(2,3)=3 folds(2-6 2-5 2-4 2-3)");
        Sentence.holds("FOLDS are numbered by FIRST ahead of LAST", TWELVE + "wrap(3,4)=0 wrap(2,9)=0 wrap(5,9)=2 wrap(0,1)=0 folds(0-1 2-9 3-4 5-9)");
    }

    private static void cross() {
        String one = "11*split() wrap(3,6) ";
        Sentence.holds("CROSS: both have some LINE: not those that are apart", one + "wrap(1,2)=0 wrap(7,8)=2 folds(1-2 3-6 7-8)");
        Sentence.holds("CROSS: .. one LINE is enough", one + "wrap(6,7)=STATE wrap(2,3)=STATE");
        Sentence.holds("CROSS: but neither has all LINES of the other: not one that is within", one + "wrap(4,5)=1 wrap(3,5)=1 folds(3-6 3-5 4-5)");
        Sentence.holds("CROSS: .. not one that has the same LAST", one + "wrap(5,6)=1 wrap(4,6)=1 wrap(2,6)=0 folds(2-6 3-6 4-6 5-6)");
        Sentence.holds("CROSS: .. not one that has the same FIRST", one + "wrap(3,4)=1 wrap(3,7)=0 folds(3-7 3-6 3-4)");
        Sentence.holds("CROSS: .. not one that it is within", one + "wrap(2,7)=0 wrap(0,11)=0 folds(0-11 2-7 3-6)");
    }

    private static void shut() {
        Sentence.holds("shut: what it was", "split() wrap(0,1) shut(0,1)=0 shut(0,1)=1 shut(0,0)=1 shut(0,0)=0");
        Sentence.holds("shut: a FOLD is SHUT (v 1), OPEN (0)", "split() wrap(0,1) shut(0,1) fold(0,2)=1 rule(5)=1 rule(3)=1 shut(0,0) fold(0,2)=0 rule(5)=0 rule(3)=0");
        Sentence.holds("shut: BAD: no such FOLD", "shut(0,1)=BAD split() wrap(0,1) shut(1,1)=BAD shut(-1,1)=BAD shut(8,0)=BAD shut(MAX,0)=BAD shut(MIN,0)=BAD rule(5)=0");
        Sentence.holds("shut: BAD: v", "split() wrap(0,1) shut(0,2)=BAD shut(0,-1)=BAD shut(0,MAX)=BAD shut(0,MIN)=BAD rule(5)=0 shut(0,1) shut(0,2)=BAD rule(5)=1");
        Sentence.holds("shut: that FOLD alone", TWELVE + "wrap(0,1) wrap(3,5) wrap(4,5) shut(1,1)=0 folds(0-1 3-5! 4-5) shut(2,1)=0 shut(1,0)=1 folds(0-1 3-5 4-5!) hidden(5)");
    }

    private static void shutAndCaret() {
        String text = "tell(ab\n[cd\n[ef\ngh]\nij]\nkl) ";
        Sentence.holds("shut: CARET goes to PLACE 0 of its FIRST, if its LINE is HIDDEN then", text + "go(3,2) shut(0,1) caretIs(1 0 0 1 0)");
        Sentence.holds("shut: .. of that FOLD's FIRST", text + "go(3,2) shut(1,1) caretIs(2 0 0 2 0) shut(0,1) caretIs(1 0 0 1 0)");
        Sentence.holds("shut: .. at LAST, too", text + "go(4,1) shut(0,1) caretIs(1 0 0 1 0)", text + "go(3,1) shut(1,1) caretIs(2 0 0 2 0)");
        Sentence.holds("shut: CARET stays at FIRST", text + "go(1,2) shut(0,1) caretIs(1 2 2 1 2)");
        Sentence.holds("shut: CARET stays behind LAST, ahead of FIRST", text + "go(5,2) shut(0,1) caretIs(5 2 2 2 2) go(0,1) shut(1,1) caretIs(0 1 1 0 1)");
        Sentence.holds("shut: CARET stays in a FOLD that is OPEN", text + "go(2,1) shut(1,1) caretIs(2 1 1 2 1) shut(1,0) go(3,1) shut(1,0) caretIs(3 1 1 3 1)");
        Sentence.holds("shut: CARET does not come back, as it is OPEN", text + "go(3,2) shut(0,1) shut(0,0) caretIs(1 0 0 1 0)");
    }

    private static void unwrap() {
        Sentence.holds("unwrap: a FOLD goes: how many are left", TWELVE + "wrap(0,5) wrap(1,2) wrap(3,4) unwrap(1)=2 folds(0-5 3-4) unwrap(1)=1 folds(0-5) unwrap(0)=0 folds()");
        Sentence.holds("unwrap: the first, the last one", TWELVE + "wrap(0,5) wrap(1,2) wrap(3,4) shut(1,1) unwrap(0)=2 folds(1-2! 3-4) unwrap(1)=1 folds(1-2!)");
        Sentence.holds("unwrap: BAD", "unwrap(0)=BAD split() wrap(0,1) unwrap(1)=BAD unwrap(-1)=BAD unwrap(8)=BAD unwrap(MAX)=BAD unwrap(MIN)=BAD rule(4)=1 unwrap(0)=0 unwrap(0)=BAD");
        Sentence.holds("unwrap: of one that is SHUT", "tell(a\n[b\nc]\nd) shut(0,1) go(1,1) unwrap(0)=0 hidden() rule(5)=0 rule(3)=0 caretIs(1 1 1 1 1) go(2,1)=2");
        Sentence.holds("unwrap: of one of two that are SHUT", "tell([a\n[b\nc]\nd]) shut(1,1) shut(0,1) unwrap(0)=1 hidden(2) folds(1-2!)");
        Sentence.holds("unwrap: of eight", TWELVE + "wrap(0,11) wrap(0,10) wrap(0,9) wrap(0,8) wrap(0,7) wrap(0,6) wrap(0,5) wrap(0,4) shut(6,1) unwrap(7)=7 unwrap(0)=6 folds(0-10 0-9 0-8 0-7 0-6 0-5!)");
    }

    private static void set() {
        Sentence.holds("WIDTH (4 to 40)", "set(0,4)=20 rule(6)=4 set(0,40)=4 rule(6)=40 set(0,3)=BAD set(0,41)=BAD set(0,MAX)=BAD set(0,MIN)=BAD set(0,0)=BAD set(0,-4)=BAD rule(6)=40");
        Sentence.holds("TABS (1 to 8)", "set(1,1)=4 rule(7)=1 set(1,8)=1 rule(7)=8 set(1,0)=BAD set(1,9)=BAD set(1,MAX)=BAD set(1,MIN)=BAD set(1,-1)=BAD rule(7)=8");
        Sentence.holds("MODE (0, 1, 2)", "set(2,0)=2 rule(8)=0 set(2,1)=0 rule(8)=1 set(2,2)=1 rule(8)=2 set(2,3)=BAD set(2,-1)=BAD set(2,MAX)=BAD set(2,MIN)=BAD rule(8)=2");
        Sentence.holds("EXTRA (0 to 7)", "set(3,0)=2 rule(9)=0 set(3,7)=0 rule(9)=7 set(3,8)=BAD set(3,-1)=BAD set(3,MAX)=BAD set(3,MIN)=BAD rule(9)=7");
        Sentence.holds("set: what it was", "set(0,9)=20 set(0,10)=9 set(1,3)=4 set(1,2)=3 set(2,1)=2 set(2,0)=1 set(3,1)=2 set(3,4)=1 set(0,10)=10");
        Sentence.holds("set: BAD: what", "set(-1,4)=BAD set(4,4)=BAD set(4,1)=BAD set(MAX,4)=BAD set(MIN,4)=BAD rule(6)=20 rule(7)=4 rule(8)=2 rule(9)=2");
        Sentence.holds("set: that one alone", "set(0,7) rule(7)=4 rule(8)=2 rule(9)=2 set(1,7) rule(6)=7 rule(8)=2 rule(9)=2 set(2,0) rule(6)=7 rule(7)=7 rule(9)=2 set(3,5) rule(6)=7 rule(7)=7 rule(8)=0");
    }

    private static void setLaysAnew() {
        Sentence.holds("set: all LINES are laid anew, HIDDEN or not",
            "tell(abcdefgh\n[ijklmn\nopqrstuvw]) shut(0,1) set(2,1) set(3,0) set(0,4) line(0,1)=2 line(1,1)=2 line(2,1)=3 rule(2)=4",
            "set(0,5) line(0,1)=2 line(1,1)=2 line(2,1)=2 rule(2)=4 set(2,0) line(2,1)=1 rule(2)=2");
        Sentence.holds("set: by TABS", "tell(a\tb\nc\td) at(1,2,1)=4 set(1,8) at(0,2,1)=8 at(1,2,1)=8 set(1,3) at(1,2,1)=3");
        Sentence.holds("set: by EXTRA", "tell(abcdef\nabcdef) set(0,4) at(1,4,1)=2 set(3,1) at(0,4,1)=1 at(1,4,1)=1 line(1,3)=1");
    }
}
