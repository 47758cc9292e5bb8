/** Sentences that name a boundary: Terms 2 (CELLS, ROWS, BREAKS, STOPS, the screen), promises 6 to 12. */
public final class RowsEdgesTest {
    private static final String FORTY_WIDE = "ABCDEFGHIJABCDEFGHIJABCDEFGHIJABCDEFGHIJ";
    private static final String FORTY = FORTY_WIDE.toLowerCase();
    /** WIDTH 4, EXTRA 0; in MODE 1, in MODE 2. */
    private static final String BY_SIGNS = "set(0,4) set(3,0) set(2,1) ";
    private static final String BY_WORDS = "set(0,4) set(3,0) ";

    public static void main(String[] args) {
        cells();
        tabs();
        noBreaks();
        indent();
        fits();
        tabsFit();
        hangs();
        bySigns();
        byWords();
        breaks();
        stops();
        rowsAndColumnsOfPlaces();
        everyRowHasStops();
        rowsOfTheScreen();
        placesOfColumns();
        rule();
        signAndLine();
        rowAndCell();
        atAndTo();
        Due.end();
    }

    private static void cells() {
        Sentence.holds("CELLS: NARROW, BLANK, DASH 1", "tell(az -b) columns(0,0 1 2 3 4 5)");
        Sentence.holds("CELLS: WIDE 2", "tell(AZb) columns(0,0 2 4 5) cells(0,0 0 1 1 2 .)");
        Sentence.holds("CELLS: MARK 0", "tell(a~b~~) columns(0,0 1 1 2 2 2) cells(0,0 2 .)");
        Sentence.holds("CELLS: MARK as the first of a LINE 1", "tell(~~a) columns(0,0 1 1 2) cells(0,0 2 .)");
        Sentence.holds("CELLS: .. of each LINE", "tell(a~\n~a\n~) columns(0,0 1 1) columns(1,0 1 2) columns(2,0 1)");
        Sentence.holds("CELLS: a MARK that is the first no more", "type('~') columns(0,0 1) go(0,0)=0 type('b')=2 columns(0,0 1 1)");
        Sentence.holds("CELLS: .. as its LINE comes behind another", "tell(a\n~) columns(1,0 1) go(1,0) erase()=0 columns(0,0 1 1)");
        Sentence.holds("CELLS: .. alone in MODE 0, too", "tell(~~) set(2,0) columns(0,0 1 1)");
    }

    private static void tabs() {
        for (int tabs = 1; tabs <= 8; tabs++) {
            for (int column = 0; column <= 8; column++) {
                int next = column + 1;
                while (next % tabs != 0) {
                    next++;
                }
                String text = "x".repeat(column) + "\tb";
                String found = "at(0," + column + ",1)=" + column + " at(0," + (column + 1) + ",1)=" + next;
                Sentence.holds("CELLS: TAB up to the next COLUMN that TABS divides (1 at least)",
                    "tell(" + text + ") set(1," + tabs + ") set(0,40) " + found + " set(2,0) " + found);
            }
        }
    }

    private static void noBreaks() {
        Sentence.holds("MODE 0: one ROW with all SIGNS", "tell(" + FORTY_WIDE + ") set(0,4) set(2,0) rule(2)=1 line(0,1)=1",
            "row(0,1)=0 row(0,2)=40 row(0,3)=0 row(0,4)=80 at(0,40,0)=0 at(0,40,1)=80 cell(0,79)=39 cell(0,80)=NONE");
        Sentence.holds("MODE 0: from COLUMN 0", "tell(   a) set(3,7) set(2,0) rows(0) columns(0,0 1 2 3 4)");
        Sentence.holds("MODE 0: none HANGS", "tell(abcd  \t) set(0,4) set(2,0) line(0,6)=0 stops(0,0 1 2 3 4 5 6 7) columns(0,0 1 2 3 4 5 6 8)");
        Sentence.holds("MODE 0: a TAB goes beyond WIDTH", "tell(abc\td\t) set(0,4) set(1,8) set(2,0) columns(0,0 1 2 3 8 9 16)");
        Sentence.holds("MODE 0: each LINE has one", "tell(abcdefgh\nABCDEFGH) set(0,4) set(2,0) rule(2)=2 row(1,0)=1 row(1,4)=16");
    }

    private static void indent() {
        Sentence.holds("INDENT: EXTRA alone", "tell(abc) line(0,3)=2 set(3,0) line(0,3)=0 set(3,7) line(0,3)=7");
        Sentence.holds("INDENT: of a LINE without SIGNS", "line(0,3)=2 set(3,7) line(0,3)=7 set(0,4) line(0,3)=2");
        Sentence.holds("INDENT: BLANKS and TABS with which the LINE begins",
            "tell(  ab\n\tab\n \t ab\n   ) line(0,3)=4 line(1,3)=6 line(2,3)=7 line(3,3)=5");
        Sentence.holds("INDENT: of BLANKS alone, as there are more or less", "tell(   ) line(0,3)=5 go(0,3) erase()=1 line(0,3)=4 erase()=1 line(0,3)=3 type('\t')=2 line(0,3)=6");
        Sentence.holds("INDENT: not those behind another SIGN", "tell(a  b\n-  b\n~  b\n - b\n ~ b) line(0,3)=2",
            "line(1,3)=2 line(2,3)=2 line(3,3)=3 line(4,3)=3");
        Sentence.holds("INDENT: by the TABS that are", "tell( \t\ta) set(0,40) set(3,0) line(0,3)=8 set(1,1) line(0,3)=3 set(1,7) line(0,3)=14");
        Sentence.holds("INDENT: CELLS as in MODE 0, summed", "tell(\t\t) set(0,40) set(1,8) set(3,1) line(0,3)=17");
        for (int width = 4; width <= 40; width++) {
            Sentence.holds("INDENT: at most WIDTH halved (down)",
                "tell(                    a) set(3,7) set(0," + width + ") line(0,3)=" + width / 2);
        }
        Sentence.holds("INDENT: up to WIDTH halved, as it is", "tell( a) set(0,8) line(0,3)=3 set(3,3) line(0,3)=4 set(3,4) line(0,3)=4");
        Sentence.holds("INDENT: 0 in MODE 0", "tell(  a) line(0,3)=4 set(2,0) line(0,3)=0 set(2,1) line(0,3)=4");
        Sentence.holds("the first ROW begins at COLUMN 0, others at INDENT", "tell(abcdefgh) set(0,4) set(2,1) rows(0 4 6)",
            "row(0,3)=0 row(1,3)=2 row(2,3)=2 columns(0,0 1 2 3 2 3 2 3 4)");
        Sentence.holds("the first ROW begins at COLUMN 0, of each LINE", "tell(abcdef\nabcdef) set(0,4) set(2,1) row(2,3)=0 row(3,3)=2");
    }

    private static void fits() {
        Sentence.holds("a SIGN FITS, if that COLUMN and its CELLS are WIDTH", "tell(abcd) " + BY_SIGNS + "rows(0) row(0,4)=4");
        Sentence.holds(".. not if they are more", "tell(abcde) " + BY_SIGNS + "rows(0 4) row(0,4)=4 row(1,4)=1");
        Sentence.holds("a WIDE SIGN FITS with two CELLS left", "tell(abC) " + BY_SIGNS + "rows(0) row(0,4)=4");
        Sentence.holds(".. not with one", "tell(abcD) " + BY_SIGNS + "rows(0 3) row(0,4)=3 cell(0,3)=NONE row(1,4)=2");
        Sentence.holds(".. nor with none", "tell(abcdE) " + BY_SIGNS + "rows(0 4)");
        Sentence.holds("a DASH FITS as a NARROW SIGN does", "tell(abc-) " + BY_SIGNS + "rows(0) set(2,1)=1 tell(abcd-) rows(0 4)");
        Sentence.holds("a BLANK FITS with one CELL left", "tell(abc ) " + BY_SIGNS + "line(0,6)=0 columns(0,0 1 2 3 4)");
        Sentence.holds("a MARK FITS with none left", "tell(abcd~~e) " + BY_SIGNS + "rows(0 6) line(0,6)=0 columns(0,0 1 2 3 4 4 0 1)");
        Sentence.holds("a SIGN FITS behind an INDENT", "tell(abcdEfg) set(0,4) set(2,1) rows(0 4 5) columns(0,0 1 2 3 2 2 3 4)");
        Sentence.holds("WIDTH 40: forty SIGNS FIT", "tell(" + FORTY + ") set(0,40) rows(0) set(0,39) rows(0 39)");
        Sentence.holds("WIDTH 4: ROWS of one SIGN", "tell(" + FORTY_WIDE + ") set(0,4) line(0,1)=39 row(38,1)=39 row(38,2)=40 at(0,40,0)=38 at(0,40,1)=4");
    }

    private static void tabsFit() {
        String six = "set(0,6) set(3,0) set(2,1) ";
        Sentence.holds("a TAB has CELLS up to WIDTH at most", "tell(abcd\te) " + six + "rows(0 5) columns(0,0 1 2 3 4 0 1) cells(0,0 1 2 3 4 4 .)");
        Sentence.holds("a TAB with one CELL left", "tell(abcde\tf) " + six + "rows(0 6) line(0,6)=0 cells(0,0 1 2 3 4 5 .)");
        Sentence.holds("a TAB FITS below WIDTH, at it it HANGS", "tell(abcdef\tg) " + six + "rows(0 7) line(0,6)=1 stops(0,0 1 2 3 4 5 7 8)");
        Sentence.holds("a TAB whose COLUMN is WIDTH itself", "tell(abcde\tf) set(0,8) set(3,0) rows(0 6) columns(0,0 1 2 3 4 5 0 1)");
        Sentence.holds("a TAB that has CELLS ahead of WIDTH", "tell(a\tf) " + six + "rows(0) columns(0,0 1 4 5)");
        Sentence.holds("TABS greater than WIDTH", "tell(\tb) set(1,8) " + BY_SIGNS + "rows(0 1) cells(0,0 0 0 0 .)");
        Sentence.holds("a TAB goes by the COLUMN, not by the ROW's first", "tell(abcdefghi\tj) set(0,8) set(2,1) rows(0 8)",
            "columns(0,0 1 2 3 4 5 6 7 2 3 4 5)");
    }

    private static void hangs() {
        for (String set : new String[] {BY_SIGNS, BY_WORDS}) {
            Sentence.holds("a BLANK that does not FIT HANGS: it comes, too, with 0 CELLS", "tell(abcd e) " + set,
                "rows(0 5) row(0,2)=5 row(0,4)=4 line(0,6)=1 columns(0,0 1 2 3 4 0 1) cells(0,0 1 2 3 .)");
            Sentence.holds("a TAB that does not FIT HANGS", "tell(abcd\te) " + set + "rows(0 5) row(0,2)=5 row(0,4)=4 line(0,6)=1");
            Sentence.holds("many HANG", "tell(abcd" + " ".repeat(36) + ") " + set + "rows(0) line(0,6)=36 line(0,4)=5 row(0,2)=40 row(0,4)=4");
            Sentence.holds("a BLANK that FITS does not HANG", "tell(abc d) " + set + "line(0,6)=0 rows(0 4) columns(0,0 1 2 3 0 1)");
            Sentence.holds("a MARK behind one that HANGS comes, too", "tell(abcd ~ ~e) " + set + "rows(0 8) line(0,6)=2 columns(0,0 1 2 3 4 4 4 4 0 1)");
            Sentence.holds("by another one the ROW ends", "tell(abcd  -\nabcd  B) " + set + "rows(0 6 0 6)");
            Sentence.holds("BLANKS alone: the first ones have CELLS", "tell(      ) " + set + "rows(0) line(0,6)=2 row(0,4)=4 stops(0,0 1 2 3 6)");
        }
        Sentence.holds("they HANG in a ROW with an INDENT", "tell(abcdef  g) set(0,4) set(2,1) rows(0 4 8) line(0,6)=2 columns(0,0 1 2 3 2 3 4 4 2 3)");
        Sentence.holds("a BLANK with a CELL left behind a WIDE one that is too wide", "tell(abc D) " + BY_SIGNS + "rows(0 4) line(0,6)=0");
    }

    private static void bySigns() {
        Sentence.holds("MODE 1: the ROW ends ahead of it", "tell(ab cdef) " + BY_SIGNS + "rows(0 4) row(0,2)=4 row(0,4)=4");
        Sentence.holds("MODE 1: those behind come into the next ROW", "tell(abcdefghi) " + BY_SIGNS + "rows(0 4 8) row(2,2)=9 row(2,4)=1");
        Sentence.holds("MODE 1: the next ROW ends as the first", "tell(abcdefghi) set(0,4) set(2,1) rows(0 4 6 8)");
    }

    private static void byWords() {
        Sentence.holds("MODE 2: at the last BREAK", "tell(a b cde) set(0,6) set(3,0) rows(0 4) row(0,2)=4 row(0,4)=4");
        Sentence.holds("MODE 2: at the one BREAK", "tell(ab cdef) " + BY_WORDS + "rows(0 3) row(0,4)=3");
        Sentence.holds("MODE 2: a BREAK behind the ROW's first SIGN", "tell(-abcd) " + BY_WORDS + "rows(0 1) row(0,2)=1 row(0,4)=1 row(1,4)=4");
        Sentence.holds("MODE 2: not the BREAK with which the ROW begins", "tell(ab cdefg) " + BY_WORDS + "rows(0 3 7)");
        Sentence.holds("MODE 2: a BREAK at that one's PLACE", "tell(a bcDe) " + BY_WORDS + "rows(0 4) at(0,4,3)=1 at(0,2,3)=1");
        Sentence.holds("MODE 2: not a BREAK behind that one's PLACE", "tell(abcd- e) " + BY_WORDS + "rows(0 4) at(0,5,3)=1");
        Sentence.holds("MODE 2: else ahead of it", "tell(abcdefghi) " + BY_WORDS + "rows(0 4 8)");
        Sentence.holds("MODE 2: no BREAK within the first ROW, one in the next", "tell(abcdef gh) " + BY_WORDS + "rows(0 4 7)");
        Sentence.holds("MODE 2: those behind the end come into the next ROW", "tell(ab cdef) " + BY_WORDS + "at(0,2,0)=0 at(0,3,0)=1 at(0,3,1)=0 at(0,7,1)=4");
        Sentence.holds("MODE 2: .. at its INDENT", "tell(ab cdef) set(0,4) set(3,1) rows(0 3 6) columns(0,0 1 2 1 2 3 1 2)");
        Sentence.holds("MODE 2: what is ahead of such an end stays laid as it was",
            "tell(a\tb cdefg h) set(0,8) set(3,0) rows(0 4) row(0,4)=6 columns(0,0 1 4 5 0 1 2 3 4 5 6 7)");
        Sentence.holds("MODE 2: .. and what is behind is laid by the next ROW's COLUMNS",
            "tell(abcd efghi) set(0,8) set(3,1) rows(0 5) columns(0,0 1 2 3 4 1 2 3 4 5 6)");
        Sentence.holds("MODE 2: a MARK at a BREAK's side", "tell(ab ~cdef) " + BY_WORDS + "breaks(0,4) rows(0 4) row(0,4)=3");
    }

    private static void breaks() {
        Sentence.holds("BREAKS: but 0", "tell(A\n a\n-) breaks(0,) breaks(1,1) breaks(2,) line(0,5)=0 line(1,5)=1 line(2,5)=0");
        Sentence.holds("BREAKS: but N", "tell(a \na-\na\t\naB\n~A) breaks(0,) breaks(1,) breaks(2,) breaks(3,1) breaks(4,1)");
        Sentence.holds("BREAKS: but N, where one was", "tell(a b) breaks(0,2) go(0,3) erase()=1 breaks(0,) line(0,5)=0 type('B')=3 breaks(0,2)");
        Sentence.holds("BREAKS: of a LINE without SIGNS", "breaks(0,) line(0,5)=0");
        Sentence.holds("BREAKS: whose next SIGN is no MARK", "tell(a ~b\nB~~c\n-~) breaks(0,3) breaks(1,3) breaks(2,)");
        Sentence.holds("BREAKS: that one is WIDE", "tell(aB\na~B\n~B\nab) breaks(0,1) breaks(1,2) breaks(2,1) breaks(3,)");
        Sentence.holds("BREAKS: the nearest one ahead is a BLANK, TAB, DASH or WIDE",
            "tell(a b\na\tb\na-b\nAb) breaks(0,2) breaks(1,2) breaks(2,2) breaks(3,1)");
        Sentence.holds("BREAKS: .. the nearest one, not one ahead of that", "tell(a bc\nAbc) breaks(0,2) breaks(1,1)");
        Sentence.holds("BREAKS: .. that is no MARK", "tell(a ~~b\na~b\n~b\n~~b) breaks(0,4) breaks(1,) breaks(2,) breaks(3,)");
        Sentence.holds("BREAKS: ahead of a BLANK, TAB, DASH, too", "tell(a  -\t\t-) breaks(0,2 3 4 5 6) line(0,5)=5");
        Sentence.holds("BREAKS: in each MODE", "tell(a b-C) breaks(0,2 4) set(2,1) breaks(0,2 4) set(2,0) breaks(0,2 4) line(0,5)=2");
        Sentence.holds("BREAKS: 39 of them", "tell(" + FORTY_WIDE + ") line(0,5)=39 at(0,0,3)=0 at(0,1,3)=1 at(0,39,3)=1 at(0,40,3)=0");
    }

    private static void stops() {
        Sentence.holds("STOPS: 0, N, one of a LINE without SIGNS", "stops(0,0) line(0,4)=1");
        Sentence.holds("STOPS: of a LINE that was longer", "tell(abc) line(0,4)=4 go(0,3) erase()=1 line(0,4)=3 erase()=1 stops(0,0 1) line(0,4)=2 tell(a) line(0,4)=2");
        Sentence.holds("STOPS: 0, though its next SIGN is a MARK", "tell(~\n~~a\n~a) stops(0,0 1) stops(1,0 2 3) stops(2,0 1 2)");
        Sentence.holds("STOPS: N behind a MARK", "tell(a~) stops(0,0 2) line(0,4)=2");
        Sentence.holds("STOPS: N behind one that HANGS", "tell(abcd ) " + BY_WORDS + "stops(0,0 1 2 3 5) line(0,4)=5");
        Sentence.holds("STOPS: whose next SIGN is no MARK", "tell(a~b~~c) stops(0,0 2 5 6) line(0,4)=4");
        Sentence.holds("STOPS: .. and does not HANG", "tell(abcd \te) " + BY_WORDS + "stops(0,0 1 2 3 6 7) line(0,4)=6");
        Sentence.holds("STOPS: 41 of them", "tell(" + FORTY + ") line(0,4)=41 at(0,40,2)=1");
        Sentence.holds("STOPS: two of forty MARKS", "tell(" + "~".repeat(40) + ") line(0,4)=2 at(0,0,2)=1 at(0,1,2)=0 at(0,39,2)=0 at(0,40,2)=1");
    }

    private static void rowsAndColumnsOfPlaces() {
        Sentence.holds("the ROW of a PLACE: that into which its next SIGN came", "tell(abcdef) " + BY_SIGNS + "at(0,3,0)=0 at(0,4,0)=1");
        Sentence.holds("the ROW of one whose next SIGN HANGS", "tell(abcd ef) " + BY_SIGNS + "at(0,4,0)=0 at(0,4,1)=4 at(0,5,0)=1 at(0,5,1)=0");
        Sentence.holds("the ROW of N: the last one", "tell(abcd\nabcdef\n\nx) " + BY_SIGNS + "at(0,4,0)=0 at(0,4,1)=4 at(1,6,0)=2 at(1,6,1)=2 at(2,0,0)=3");
        Sentence.holds("the COLUMN: that with which the ROW begins", "tell(abcdef) set(0,4) set(2,1) at(0,4,1)=2");
        Sentence.holds("the COLUMN: .. and CELLS of SIGNS of that ROW ahead of it", "tell(abcdEfg) set(0,4) set(2,1) at(0,3,1)=3 at(0,5,1)=2 at(0,6,1)=3 at(0,7,1)=4");
        Sentence.holds("the COLUMN of N, as the last ROW is full", "tell(abcdef) set(0,4) set(2,1) at(0,6,1)=4 at(0,6,0)=1");
    }

    /** "Of a ROW each STOP has a COLUMN of its own, and its first PLACE is one": looked at in many ways of laying. */
    private static void everyRowHasStops() {
        String[] texts = {"a b-C d\te", "      a", "~~ab~ ~c", "abcd  efgh  ", "\t\tab\tc", "ABC DEF-~G", "- - - - -", "abcdefghijkl mn"};
        for (String text : texts) {
            for (int width = 4; width <= 10; width += 3) {
                for (int mode = 0; mode <= 2; mode++) {
                    FoldedRows x = Due.told(text);
                    x.set(0, width);
                    x.set(2, mode);
                    stopsOfRows(x, "\"" + text + "\", WIDTH " + width + ", MODE " + mode);
                }
            }
        }
    }

    private static void stopsOfRows(FoldedRows x, String when) {
        int rows = x.rule(2);
        for (int r = 0; r < rows; r++) {
            int first = x.row(r, 1);
            Due.due("its first PLACE is a STOP, " + when, x.at(0, first, 2), 1);
            int latest = -1;
            for (int p = first; p <= x.line(0, 0); p++) {
                if (x.at(0, p, 0) == r && x.at(0, p, 2) == 1) {
                    Due.must(x.at(0, p, 1) > latest, "a COLUMN of its own, PLACE " + p + ", " + when);
                    latest = x.at(0, p, 1);
                }
            }
        }
    }

    private static void rowsOfTheScreen() {
        Sentence.holds("ROWS of the screen: of all LINES, by order", "tell(abcdef\ng\n\nhijkl) " + BY_SIGNS + "rows(0 4 0 0 0 4)",
            "row(0,0)=0 row(1,0)=0 row(2,0)=1 row(3,0)=2 row(4,0)=3 row(5,0)=3 row(6,0)=BAD");
        Sentence.holds("ROWS of the screen: .. that are not HIDDEN", "tell(ab\n[cd\nefghi]\nj) " + BY_SIGNS + "rule(2)=5 shut(0,1) rule(2)=3",
            "row(0,0)=0 row(1,0)=1 row(2,0)=3 row(3,0)=BAD line(2,1)=2 line(2,2)=NONE line(3,2)=2");
        Sentence.holds("ROWS of the screen: of a LINE without SIGNS one", "split() rule(2)=2 row(1,1)=0 row(1,2)=0 row(1,3)=0 row(1,4)=0");
        Sentence.holds("HIDDEN: behind FIRST", "tell(a\n[b\nc\nd]\ne) shut(0,1) line(1,2)=1 line(2,2)=NONE");
        Sentence.holds("HIDDEN: LAST or ahead of that", "tell(a\n[b\nc\nd]\ne) shut(0,1) hidden(2 3) line(4,2)=2 rule(3)=2");
        Sentence.holds("HIDDEN: for a FOLD that is SHUT", "tell(a\n[b\nc\nd]\ne) hidden() rule(3)=0 shut(0,1) shut(0,0) hidden()");
        Sentence.holds("HIDDEN: by one of two", "tell([a\n[b\nc]\nd]) shut(1,1) hidden(2) shut(0,1) hidden(1 2 3) shut(1,0) hidden(1 2 3) shut(0,0) hidden()");
    }

    private static void placesOfColumns() {
        Sentence.holds("the PLACE of a COLUMN: the last STOP whose COLUMN is that", "tell(a\tb) to(0,0)=0 to(0,1)=1 to(0,4)=2 to(0,5)=3");
        Sentence.holds("the PLACE of a COLUMN: .. or less", "tell(a\tbC) to(0,3)=1 to(0,6)=3 to(0,7)=4 to(0,8)=4 to(0,MAX)=4");
        Sentence.holds("the PLACE of a COLUMN: the first STOP, if there is none", "tell(abcdef) set(0,4) set(2,1) to(1,0)=4 to(1,1)=4 to(1,2)=4 to(1,3)=5");
        Sentence.holds("the PLACE of a COLUMN: STOPS alone", "tell(a~b\n~~c) to(0,1)=2 to(1,0)=0 to(1,1)=2");
        Sentence.holds("the PLACE of a COLUMN: not one that HANGS", "tell(abcd  ef) " + BY_WORDS + "to(0,4)=3 to(0,MAX)=3 to(1,0)=6");
        Sentence.holds("the PLACE of a COLUMN: N, behind those that HANG", "tell(abcd  ) " + BY_WORDS + "to(0,3)=3 to(0,4)=6");
        Sentence.holds("the PLACE of a COLUMN: of that ROW", "tell(abcdefgh) " + BY_SIGNS + "to(0,4)=3 to(1,0)=4 to(1,4)=8");
        Sentence.holds("the PLACE of a COLUMN: of a ROW without SIGNS", "to(0,0)=0 to(0,7)=0");
    }

    private static void rule() {
        Sentence.holds("rule: each of 0 to 13",
            "tell(ab\n[cd\nef]\n[gh\ni]) set(0,30) set(1,3) set(2,1) set(3,5) shut(0,1) 3*type('x') undo() keep(1) feed('a') feed('b') feed('c')",
            "rule(0)=5 rule(1)=11 rule(2)=4 rule(3)=1 rule(4)=2 rule(5)=1 rule(6)=30 rule(7)=3 rule(8)=1 rule(9)=5 rule(10)=2 rule(11)=1 rule(12)=3 rule(13)=1");
        Sentence.holds("rule: BAD", "rule(-1)=BAD rule(14)=BAD rule(MAX)=BAD rule(MIN)=BAD");
    }

    private static void signAndLine() {
        Sentence.holds("sign: BAD: l", "tell(ab\nc) sign(-1,0)=BAD sign(2,0)=BAD sign(12,0)=BAD sign(MAX,0)=BAD sign(MIN,0)=BAD");
        Sentence.holds("sign: BAD: i below 0", "tell(ab) sign(0,-1)=BAD sign(0,MIN)=BAD");
        Sentence.holds("sign: NONE: there are not so many", "tell(ab\n) sign(0,0)='a' sign(0,1)='b' sign(0,2)=NONE sign(0,40)=NONE sign(0,MAX)=NONE sign(1,0)=NONE");
        Sentence.holds("sign: NONE, though the next LINE has some", "tell(" + FORTY + "\nxyz) sign(0,39)='j' sign(0,40)=NONE sign(0,41)=NONE");
        Sentence.holds("line: BAD: no such LINE", "tell(ab\nc) line(-1,0)=BAD line(2,0)=BAD line(MAX,0)=BAD line(MIN,0)=BAD line(1,0)=1",
            "line(2,1)=BAD line(2,2)=BAD line(2,3)=BAD line(2,4)=BAD line(2,5)=BAD line(2,6)=BAD line(-1,1)=BAD line(-1,2)=BAD line(-1,3)=BAD line(-1,4)=BAD");
        Sentence.holds("line: BAD: what", "tell(ab) line(0,-1)=BAD line(0,7)=BAD line(0,MAX)=BAD line(0,MIN)=BAD line(0,6)=0");
        Sentence.holds("line: BAD is ahead of NONE", "tell([a\nb]) shut(0,1) line(1,7)=BAD line(1,2)=NONE");
        Sentence.holds("line: 1 ROWS that it has (HIDDEN or not)", "tell([a\nbcdefg]) " + BY_SIGNS + "line(1,1)=2 shut(0,1) line(1,1)=2");
        Sentence.holds("line: 2 its first ROW (NONE: it is HIDDEN)", "tell(abcdef\n[g\nh]\ni) " + BY_SIGNS + "shut(0,1) line(0,2)=0 line(1,2)=2 line(2,2)=NONE line(3,2)=3");
        Sentence.holds("line: the others of one that is HIDDEN", "tell([a\n b c  d]) set(0,4) shut(0,1) line(1,0)=7 line(1,3)=2 line(1,4)=6 line(1,5)=4 line(1,6)=2");
        Sentence.holds("line: 6 SIGNS that HANG", "tell(abcd  e\nabcd \nabc ) " + BY_WORDS + "line(0,6)=2 line(1,6)=1 line(2,6)=0");
    }

    private static void rowAndCell() {
        Sentence.holds("row: BAD: no such ROW", "tell(ab\ncd) row(-1,0)=BAD row(2,0)=BAD row(MAX,0)=BAD row(MIN,0)=BAD row(1,0)=1",
            "row(2,1)=BAD row(2,2)=BAD row(2,3)=BAD row(2,4)=BAD row(-1,1)=BAD row(-1,2)=BAD row(-1,3)=BAD row(-1,4)=BAD");
        Sentence.holds("row: BAD: none of a HIDDEN LINE", "tell([ab\ncd]) shut(0,1) row(0,0)=0 row(1,0)=BAD to(1,0)=BAD cell(1,0)=BAD");
        Sentence.holds("row: BAD: what", "row(0,-1)=BAD row(0,5)=BAD row(0,MAX)=BAD row(0,MIN)=BAD row(0,4)=0");
        Sentence.holds("row: of the first, of one within, of the last", "tell(x\nabcdefgH \ty) set(0,4) set(2,1) rows(0 0 4 6 7 10)",
            "row(1,0)=1 row(1,1)=0 row(1,2)=4 row(1,3)=0 row(1,4)=4 row(2,1)=4 row(2,2)=6 row(2,3)=2 row(2,4)=4",
            "row(3,1)=6 row(3,2)=7 row(3,3)=2 row(3,4)=3 row(4,1)=7 row(4,2)=10 row(4,3)=2 row(4,4)=4",
            "row(5,1)=10 row(5,2)=11 row(5,3)=2 row(5,4)=3");
        Sentence.holds("cell: BAD: r", "tell(ab) cell(-1,0)=BAD cell(1,0)=BAD cell(MAX,0)=BAD cell(MIN,0)=BAD");
        Sentence.holds("cell: BAD: c below 0", "tell(ab) cell(0,-1)=BAD cell(0,MIN)=BAD cell(0,0)=0");
        Sentence.holds("cell: NONE: behind its SIGNS", "tell(ab\n) cell(0,1)=1 cell(0,2)=NONE cell(0,MAX)=NONE cell(1,0)=NONE");
        Sentence.holds("cell: NONE: behind its SIGNS, though the next ROW has some there", "tell(-abcd\nef) set(0,4) rows(0 1 3 0) cells(0,0 . . . .) cells(1,. . 1 2 .) cells(2,. . 3 4 .)");
        Sentence.holds("cell: NONE: ahead of an INDENT", "tell(abcdef) set(0,4) set(2,1) cells(1,. . 4 5 .)");
        Sentence.holds("cell: all CELLS of a TAB, of a WIDE SIGN", "tell(a\tBc) cells(0,0 1 1 1 2 2 3 .)");
        Sentence.holds("cell: no MARK but the first, none that HANGS", "tell(~~a~\nabcd  e) " + BY_WORDS + "cells(0,0 2 .) cells(1,0 1 2 3 .) cells(2,6 .)");
    }

    private static void atAndTo() {
        Sentence.holds("at: BAD: no such LINE", "tell(ab\nc) at(-1,0,0)=BAD at(2,0,0)=BAD at(MAX,0,0)=BAD at(MIN,0,0)=BAD",
            "at(2,0,1)=BAD at(2,0,2)=BAD at(2,0,3)=BAD at(-1,0,1)=BAD at(-1,0,2)=BAD at(0,-1,1)=BAD at(0,-1,2)=BAD at(0,-1,3)=BAD");
        Sentence.holds("at: BAD: no such PLACE", "tell(ab) at(0,-1,0)=BAD at(0,3,0)=BAD at(0,MAX,0)=BAD at(0,MIN,0)=BAD at(0,3,1)=BAD at(0,3,2)=BAD at(0,3,3)=BAD");
        Sentence.holds("at: N is a PLACE", "tell(ab\n) at(0,2,0)=0 at(0,2,1)=2 at(0,2,2)=1 at(0,2,3)=0 at(1,0,0)=1 at(1,1,0)=BAD");
        Sentence.holds("at: BAD: what", "at(0,0,-1)=BAD at(0,0,4)=BAD at(0,0,MAX)=BAD at(0,0,MIN)=BAD");
        Sentence.holds("at: 0 NONE: it is HIDDEN", "tell([ab\ncd]\nef) shut(0,1) at(0,1,0)=0 at(1,1,0)=NONE at(2,1,0)=1");
        Sentence.holds("at: 1, 2, 3 of a LINE that is HIDDEN", "tell([ab\nc ~d]) shut(0,1) at(1,3,1)=2 at(1,3,2)=1 at(1,2,2)=0 at(1,3,3)=1");
        Sentence.holds("at: BAD is ahead of NONE", "tell([ab\ncd]) shut(0,1) at(1,3,0)=BAD at(1,-1,0)=BAD at(1,0,4)=BAD");
        Sentence.holds("to: BAD", "tell(ab) to(-1,0)=BAD to(1,0)=BAD to(MAX,0)=BAD to(MIN,0)=BAD to(0,-1)=BAD to(0,MIN)=BAD");
        Sentence.holds("to: a COLUMN (0 on)", "tell(ab) to(0,0)=0 to(0,2)=2 to(0,3)=2 to(0,MAX)=2");
    }
}
