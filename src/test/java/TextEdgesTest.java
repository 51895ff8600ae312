/** Boundaries of promises 1 to 5 (a new object, feed, end, text, fault) and of THE TAPE; each test is of one sentence. */
public final class TextEdgesTest {
    private static final Edges EDGES = new Edges();
    private static final int BAD = Edges.BAD, STATE = Edges.STATE, FULL = Edges.FULL, NONE = Edges.NONE;
    private static final int MIN = Edges.MIN, MAX = Edges.MAX;
    private static final String TWELVE = "row a;".repeat(12);

    public static void main(String[] args) {
        noneAtFirst();
        sheetsOfNothingAtFirst();
        objectsShareNothing();
        aByteIs0To127();
        threeHundredBytes();
        badAheadOfFull();
        roomAgainBehindEndAndText();
        keepsItsFirstBytes();
        endAboveWhatItHas();
        endOfAnEmptyTape();
        placesFrom0To300();
        blanksAsManyAsWanted();
        otherSpaceIsNoToken();
        aBlankBetweenNames();
        bytesThatBeginALine();
        bytesWhereBeadsAreDue();
        bytesWhereTheSignIsDue();
        aPointIsNone();
        namesAsLongAsMayBe();
        theEndIsTheLength();
        lettersAToF();
        sixteenBeadsAtMost();
        asManyAsTheRowsAhead();
        twelveRows();
        twelveRowsOfSixteen();
        froOnce();
        theFirstFaultMet();
        froToldOrNot();
        anEmptyText();
        theTapeIsEmptyThen();
        whatWasToldStays();
        inPlaceOfWhatThereWas();
        faultOfTheLatest();
        the512thCall();
        EDGES.end();
    }

    // ---- promise 1

    /** "none at first", "0 at first": ROWS, MODE, THE SLIP, THE THREAD, IMAGES, THE TAPE. */
    private static void noneAtFirst() {
        for (int what = 0; what <= 9; what++) {
            EDGES.answers(Edges.NEW, 0, "rule", what);
        }
        EDGES.answers(Edges.NEW, 0, "count", 0);
        EDGES.answers(Edges.NEW, 0, "count", 1);
        EDGES.answers(Edges.NEW, 0, "fault");
        EDGES.answers(Edges.NEW, 0, "torn");
        EDGES.answers(Edges.NEW, 0, "tear");
        EDGES.refused(Edges.NEW, BAD, "bead", 0, 0);
        EDGES.refused(Edges.NEW, NONE, "spoken");
        EDGES.refused(Edges.NEW, NONE, "plan", 0);
        EDGES.refused(Edges.NEW, STATE, "back", 0);
        EDGES.refused(Edges.NEW, STATE, "back", 1);
    }

    /** "SHEETS of nothing." */
    private static void sheetsOfNothingAtFirst() {
        EDGES.refused(Edges.NEW, NONE, "count", 2);
        for (int k = 0; k <= 3; k++) {
            EDGES.refused(Edges.NEW, -11, "lay", k, 0, 0);
            for (int lane = 0; lane <= 2; lane++) {
                EDGES.answers(Edges.NEW, 0, "run", k, lane, 0, 1);
                EDGES.answers(Edges.NEW.then("run", k, lane, 0, 1), 1, "torn");
            }
        }
    }

    /** A new object is new, whatever another one was told. */
    private static void objectsShareNothing() {
        Edges.SOME.made();
        Edges.FULL_PICTURE.made();
        noneAtFirst();
        sheetsOfNothingAtFirst();
    }

    // ---- promise 2

    /** "A byte (0 to 127) comes behind THE TAPE: how many it has. BAD". */
    private static void aByteIs0To127() {
        BeadWords x = new BeadWords();
        for (int c = 0; c <= 127; c++) {
            EDGES.due("feed(" + c + ")", x.feed(c), c + 1);
        }
        EDGES.refusedEach(Edges.NEW, BAD, "feed", MIN, -1, 128, 255, 256, MAX);
        EDGES.refusedEach(Edges.SOME, BAD, "feed", MIN, -1, 128, MAX, 65536 + 'a');
    }

    /** "FULL: more than 300." */
    private static void threeHundredBytes() {
        Script but1 = Edges.FULL_TAPE.then("end", 299);
        EDGES.answers(but1, 299, "count", 1);
        EDGES.answers(but1, 300, "feed", 0);
        EDGES.answers(Edges.FULL_TAPE, 300, "count", 1);
        EDGES.refusedEach(Edges.FULL_TAPE, FULL, "feed", 0, ' ', 'a', ';', 127);
    }

    /** BAD, FULL: "the first that fits". */
    private static void badAheadOfFull() {
        EDGES.refusedEach(Edges.FULL_TAPE, BAD, "feed", MIN, -1, 128, MAX);
    }

    /** A tape that was full takes bytes again when it has fewer. */
    private static void roomAgainBehindEndAndText() {
        EDGES.answers(Edges.FULL_TAPE.then("feed", 0).then("end", 0), 1, "feed", 0);
        EDGES.answers(Edges.FULL_TAPE.then("text"), 1, "feed", 0);
        EDGES.answers(Edges.FULL_TAPE.then("end", 299).then("feed", ';').then("feed", ';'), 300, "count", 1);
        // The byte that is refused is not there: the text is taken.
        EDGES.answers(Edges.FULL_TAPE.then("feed", '.'), 1, "text");
    }

    // ---- promise 3

    /** "THE TAPE keeps its first n bytes: how many it had." */
    private static void keepsItsFirstBytes() {
        Script ten = Edges.NEW.feed("row ab;row");
        for (int n = 0; n <= 10; n++) {
            EDGES.answers(ten, 10, "end", n);
            EDGES.answers(ten.then("end", n), n, "count", 1);
            EDGES.answers(ten.then("end", n), n, "end", 0);
        }
        EDGES.changesNothing(ten, 10, "end", 10);
        EDGES.answers(ten.then("end", 7), 1, "text");
        EDGES.answers(ten.then("end", 6), -16, "text");
        EDGES.answers(ten.then("end", 5).feed("fc;").then("text"), 5, "bead", 0, 1);
        EDGES.answers(ten.then("end", 5).feed("fc;").then("text"), 3, "rule", 1);
        EDGES.answers(Edges.FULL_TAPE, 300, "end", 300);
        EDGES.answers(Edges.FULL_TAPE, 300, "end", 0);
    }

    /** "BAD (n above that, too)." */
    private static void endAboveWhatItHas() {
        Script ten = Edges.NEW.feed("row ab;row");
        EDGES.refusedEach(ten, BAD, "end", MIN, -1, 11, 300, MAX);
        EDGES.refusedEach(Edges.FULL_TAPE, BAD, "end", MIN, -1, 301, MAX);
        // What is gone does not come again.
        EDGES.refusedEach(ten.then("end", 4), BAD, "end", 5, 10);
    }

    /** The same of no bytes. */
    private static void endOfAnEmptyTape() {
        EDGES.changesNothing(Edges.NEW, 0, "end", 0);
        EDGES.refusedEach(Edges.NEW, BAD, "end", MIN, -1, 1, MAX);
        EDGES.refused(Edges.FULL_TAPE.then("text"), BAD, "end", 1);
    }

    // ---- promise 4: places, tokens

    /** That a text has this fault at this place, and that neither changes what was told. */
    private static void fault(String letters, int which, int place) {
        Script told = Edges.NEW.text("fro;row fed;");
        Script read = told.text(letters);
        String text = "\"" + letters + "\"";
        BeadWords x = told.feed(letters).made();
        EDGES.due("text() of " + text, x.text(), -10 - place);
        EDGES.due("fault() of " + text, x.fault(), which);
        EDGES.due("count(1) behind " + text, x.count(1), 0);
        EDGES.answers(read, 1, "rule", 0);
        EDGES.answers(read, 3, "rule", 1);
        EDGES.answers(read, 1, "rule", 2);
        EDGES.answers(read, 5, "bead", 0, 0);
    }

    private static void taken(String letters, int rows, int w, int mode) {
        String text = "\"" + letters + "\"";
        BeadWords x = Edges.NEW.text("fro;row fed;").feed(letters).made();
        EDGES.due("text() of " + text, x.text(), rows);
        EDGES.due("fault() of " + text, x.fault(), 0);
        EDGES.due("count(1) behind " + text, x.count(1), 0);
        EDGES.due("rule(0) of " + text, x.rule(0), rows);
        EDGES.due("rule(1) of " + text, x.rule(1), w);
        EDGES.due("rule(2) of " + text, x.rule(2), mode);
        EDGES.due("rule(3) of " + text, x.rule(3), rows * w);
    }

    /** "THE TAPE has 300 bytes, places from 0": "-10 less the place"; "the end: the length". */
    private static void placesFrom0To300() {
        fault(".", 1, 0);
        fault(" ".repeat(299) + ".", 1, 299);
        fault(" ".repeat(299) + ";", 2, 299);
        fault(" ".repeat(297) + "row", 2, 300);
        fault(" ".repeat(299) + "r", 2, 299);
        fault("row" + " ".repeat(297), 2, 300);
        fault("row a" + " ".repeat(295), 2, 300);
        taken(" ".repeat(294) + "row a;", 1, 1, 0);
        taken("row" + " ".repeat(291) + "abcde;", 1, 5, 0);
        taken(" ".repeat(300), 0, 0, 0);
        fault("a".repeat(300), 2, 0);
        fault("row " + "a".repeat(296), 3, 4);
    }

    /** "blanks (32) ahead, between, behind, as many as wanted". */
    private static void blanksAsManyAsWanted() {
        taken("row ab;", 1, 2, 0);
        taken(" row ab;", 1, 2, 0);
        taken("row  ab;", 1, 2, 0);
        taken("row ab ;", 1, 2, 0);
        taken("row ab; ", 1, 2, 0);
        taken("   row   ab   ;   ", 1, 2, 0);
        taken("fro;row ab;row cd;", 2, 2, 1);
        taken("  fro  ;  row  ab  ;  row  cd  ;  ", 2, 2, 1);
    }

    /** "blanks (32)": no other. */
    private static void otherSpaceIsNoToken() {
        for (char c : new char[] {0, 9, 10, 11, 12, 13, 31, 33, 95, 127}) {
            fault(c + "row ab;", 1, 0);
            fault("row" + c + "ab;", 1, 3);
            fault("row ab" + c + ";", 1, 6);
            fault("row ab;" + c, 1, 7);
        }
    }

    /** "at least one between two NAMES; else none is needed". */
    private static void aBlankBetweenNames() {
        fault("rowab;", 2, 0);
        taken("row ab;", 1, 2, 0);
        taken("row ab;fro;", 1, 2, 1);
        fault("frorow ab;", 2, 0);
        fault("row abfro;", 3, 4);
    }

    /** "NAMES (a .. z), the sign ;": each byte where a line may begin. */
    private static void bytesThatBeginALine() {
        for (char c = 0; c <= 127; c++) {
            if (c == ' ') {
                taken(" ", 0, 0, 0);
            } else {
                fault("" + c, c == ';' || c >= 'a' && c <= 'z' ? 2 : 1, 0);
            }
        }
    }

    /** "letters a (0) to f (5)", "a NAME of BEADS with a letter behind f": each byte there. */
    private static void bytesWhereBeadsAreDue() {
        for (char c = 0; c <= 127; c++) {
            if (c >= 'a' && c <= 'f') {
                taken("row " + c + ";", 1, 1, 0);
                EDGES.answers(Edges.NEW.text("row " + c + ";"), c - 'a', "bead", 0, 0);
            } else if (c >= 'g' && c <= 'z') {
                fault("row " + c + ";", 3, 4);
            } else if (c == ' ') {
                fault("row  ;", 2, 5);
            } else {
                fault("row " + c + ";", c == ';' ? 2 : 1, 4);
            }
        }
    }

    /** "a TOKEN that can not stand there": each byte where just the sign may. */
    private static void bytesWhereTheSignIsDue() {
        for (char c = 0; c <= 127; c++) {
            if (c == ';') {
                taken("row a ;", 1, 1, 0);
                taken("fro ;", 0, 0, 1);
            } else if (c == ' ') {
                fault("row a  ", 2, 7);
                fault("fro  ", 2, 5);
            } else {
                int which = c >= 'a' && c <= 'z' ? 2 : 1;
                fault("row a " + c, which, 6);
                fault("fro " + c, which, 4);
            }
        }
    }

    /** "(a point is none)". */
    private static void aPointIsNone() {
        fault("row ab.", 1, 6);
        fault("row a.b;", 1, 5);
        fault("row .;", 1, 4);
        fault("row.", 1, 3);
        fault("row ab;.", 1, 7);
    }

    /** "TOKENS, each as long as may be"; "a NAME that begins no line". */
    private static void namesAsLongAsMayBe() {
        for (String name : new String[] {"r", "ro", "rows", "roww", "rox", "sow", "rpw", "f", "fr", "fros", "frow", "gro", "frp",
            "fo", "rw", "rof", "worr", "orf"}) {
            fault(name + " ab;", 2, 0);
            fault(name + ";", 2, 0);
            fault("row a; " + name, 2, 7);
        }
        fault("Row ab;", 1, 0);
        fault("rOw ab;", 2, 0);
        fault("row Ab;", 1, 4);
        fault("row aB;", 1, 5);
    }

    /** "or the end: the length". */
    private static void theEndIsTheLength() {
        fault("row", 2, 3);
        fault("row   ", 2, 6);
        fault("row a", 2, 5);
        fault("row a   ", 2, 8);
        fault("fro", 2, 3);
        fault("fro ", 2, 4);
        fault("row a;row", 2, 9);
        fault("row a;row b", 2, 11);
        fault("row a;fro", 2, 9);
    }

    // ---- promise 4: beads, rows

    /** "with a letter behind f": wherever in the NAME, which is the place. */
    private static void lettersAToF() {
        taken("row abcdef;", 1, 6, 0);
        fault("row gbcdef;", 3, 4);
        fault("row abcgef;", 3, 4);
        fault("row abcdeg;", 3, 4);
        fault("row abcdez;", 3, 4);
        fault("row aa;row  ag;", 3, 12);
        fault("row row;", 3, 4);
        fault("row fro;", 3, 4);
    }

    /** "of more than 16". */
    private static void sixteenBeadsAtMost() {
        for (int w = 1; w <= 16; w++) {
            taken("row " + "a".repeat(w) + ";", 1, w, 0);
        }
        for (int w = 17; w <= 20; w++) {
            fault("row " + "a".repeat(w) + ";", 3, 4);
        }
        String sixteen = "abcdefabcdefabcf";
        EDGES.answers(Edges.NEW.text("row " + sixteen + ";"), 5, "bead", 0, 15);
        fault("row " + sixteen + ";row " + sixteen + "a;", 3, 25);
    }

    /** "of not as many as the ROWS ahead of it have". */
    private static void asManyAsTheRowsAhead() {
        taken("row abc;row def;", 2, 3, 0);
        fault("row abc;row de;", 3, 12);
        fault("row abc;row defa;", 3, 12);
        fault("row a;row ab;", 3, 10);
        fault("row abc;row def;row ab;", 3, 20);
        fault("fro;row abc;fro", 4, 12);
        // The rows of the picture that is told already do not count.
        taken("row ab;", 1, 2, 0);
        taken("row abcd;", 1, 4, 0);
    }

    /** "4 the 13th row (its NAME)"; "ROWS (12 at most)". */
    private static void twelveRows() {
        taken(TWELVE.substring(6), 11, 1, 0);
        taken(TWELVE, 12, 1, 0);
        taken(TWELVE + "fro;", 12, 1, 1);
        taken("fro;" + TWELVE, 12, 1, 1);
        fault(TWELVE + "row a;", 4, 72);
        fault(TWELVE + " row a;", 4, 73);
        fault(TWELVE + "row", 4, 72);
        fault(TWELVE + "fro; row a;", 4, 77);
        fault(TWELVE + "rowa;", 2, 72);
        fault(TWELVE + ";", 2, 72);
        fault(TWELVE + ".", 1, 72);
        // A full picture that is told already does not count.
        EDGES.answers(Edges.FULL_PICTURE.then("end", 0).feed("row a;"), 1, "text");
    }

    /** Both bounds at once, in 252 bytes: the last bead of the last row too. */
    private static void twelveRowsOfSixteen() {
        StringBuilder letters = new StringBuilder();
        for (int r = 0; r < 12; r++) {
            letters.append("row ").append("abcdef".repeat(4), r % 6, r % 6 + 16).append(';');
        }
        taken(letters.toString(), 12, 16, 0);
        taken("fro;" + letters, 12, 16, 1);
        BeadWords x = Edges.NEW.text(letters.toString()).made();
        for (int r = 0; r < 12; r++) {
            EDGES.check().beads(x, r, "abcdef".repeat(4).substring(r % 6, r % 6 + 16));
        }
        fault(letters + "row abcdefabcdefabcd;", 4, 252);
    }

    /** "fro for the second time (its NAME)". */
    private static void froOnce() {
        taken("fro;", 0, 0, 1);
        fault("fro;fro;", 4, 4);
        fault("fro;  fro;", 4, 6);
        fault("fro;row a;fro", 4, 10);
        fault("fro;row a;row a;fro;", 4, 16);
        // That the text ahead, or a hand, told it already does not count.
        EDGES.answers(Edges.NEW.text("fro;").feed("fro;"), 0, "text");
        EDGES.answers(Edges.NEW.then("mode", 1).feed("fro;"), 0, "text");
    }

    /** "the first met as it is read (a TOKEN is read when the one before has been taken ..)". */
    private static void theFirstFaultMet() {
        fault("row g.", 3, 4);
        fault("row g", 3, 4);
        fault("row ab;row c.", 3, 11);
        fault("rov .", 2, 0);
        fault("; .", 2, 0);
        fault("fro;fro.", 4, 4);
        fault("row ab row g;", 2, 7);
        fault("row ab;row cd.;fro;fro;", 1, 13);
        fault("row ab.row g;", 1, 6);
        fault("row a2;row g;", 1, 5);
        fault("fro;row abc;row g;fro;", 3, 16);
        fault("row ;.", 2, 4);
        fault("row .;", 1, 4);
    }

    /** "fro: MODE is 1 (not told: 0)". */
    private static void froToldOrNot() {
        taken("row ab;row ab;", 2, 2, 0);
        taken("fro;row ab;row ab;", 2, 2, 1);
        taken("row ab;fro;row ab;", 2, 2, 1);
        taken("row ab;row ab;fro;", 2, 2, 1);
        // Beads are told from the left, those of odd rows too.
        EDGES.answers(Edges.NEW.text("fro;row ab;row ab;"), 0, "bead", 1, 0);
        EDGES.answers(Edges.NEW.text("fro;row ab;row ab;"), 1, "plan", 2);
    }

    // ---- promise 4: what becomes of all

    /** "text: { line }": of none, too. */
    private static void anEmptyText() {
        taken("", 0, 0, 0);
        taken(" ", 0, 0, 0);
        EDGES.answers(Edges.FULL_PICTURE.then("end", 0), 0, "text");
        Script emptied = Edges.FULL_PICTURE.then("end", 0).then("text");
        EDGES.answers(emptied, 0, "rule", 3);
        EDGES.answers(emptied, 0, "count", 0);
        EDGES.refused(emptied, BAD, "bead", 0, 0);
        EDGES.refused(emptied, FULL, "string", 0);
        EDGES.refused(emptied, STATE, "back", 0);
    }

    /** "THE TAPE (empty then, by a FAULT, too)": what is fed next has the places from 0 again. */
    private static void theTapeIsEmptyThen() {
        for (String first : new String[] {"row a;", "row a2;", "row", "row g;", "fro;fro;", ""}) {
            Script read = Edges.NEW.text(first);
            EDGES.answers(read, 0, "count", 1);
            EDGES.answers(read, 1, "feed", 'a');
            EDGES.answers(read.feed(" ."), -11, "text");
            EDGES.answers(read.feed("row b;"), 1, "text");
        }
    }

    /** "-10 less the place of its FAULT: that which was told stays." */
    private static void whatWasToldStays() {
        String[] wrong = {"row d2;", "row dd;row", "row dd;row g;", "row dd;row d;", "fro;row dd;fro;", TWELVE + "row a;"};
        int[] places = {5, 10, 11, 11, 11, 72};
        Script told = Edges.SOME.then("end", 0);
        for (int i = 0; i < wrong.length; i++) {
            // Behind a first one of the same fault a second leaves all as it was, fault() too.
            Script once = told.feed(wrong[i]).then("text");
            EDGES.same("text() of \"" + wrong[i] + "\"", once, once.feed(wrong[i]).then("text"));
            EDGES.answers(told.feed(wrong[i]), -10 - places[i], "text");
            EDGES.answers(once, 3, "rule", 0);
            EDGES.answers(once, 4, "rule", 1);
            EDGES.answers(once, 1, "rule", 2);
            EDGES.answers(once, 5, "rule", 8);
            EDGES.answers(once, 5, "rule", 9);
            EDGES.answers(once, 2, "bead", 1, 0);
            EDGES.answers(once, 3, "mistake", 0);
            EDGES.answers(once, 1, "count", 0);
            EDGES.answers(once, 5, "count", 2);
            EDGES.answers(once, 3, "torn");
            EDGES.answers(once.then("back", 0), 3, "rule", 8);
        }
    }

    /** "in place of what there was; nothing is STRUNG, IMAGES are gone (THE SLIP, SHEETS stay)". */
    private static void inPlaceOfWhatThereWas() {
        Script read = Edges.SOME.then("keep", 1).text("row fe;");
        EDGES.answers(read, 1, "rule", 0);
        EDGES.answers(read, 2, "rule", 1);
        EDGES.answers(read, 0, "rule", 2);
        EDGES.answers(read, 0, "rule", 8);
        EDGES.answers(read, 0, "count", 0);
        EDGES.refused(read, STATE, "back", 0);
        EDGES.refused(read, STATE, "back", 1);
        EDGES.answers(read, 0, "keep", 0);
        EDGES.refused(read, BAD, "bead", 1, 0);
        EDGES.refused(read, BAD, "bead", 0, 2);
        EDGES.answers(read, 5, "rule", 9);
        EDGES.answers(read.slip(4, 2, 0), 2, "spoken");
        EDGES.answers(read, 5, "count", 2);
        EDGES.answers(read, 1, "run", 0, 0, 0, 1);
        EDGES.answers(read, 3, "torn");
    }

    // ---- promise 5

    /** "The FAULT of the latest text(); 0." */
    private static void faultOfTheLatest() {
        String[] wrong = {"", ".", ";", "row g;", "fro;fro;"};
        for (int which = 0; which <= 4; which++) {
            Script read = Edges.NEW.text(wrong[which]);
            EDGES.answers(read, which, "fault");
            EDGES.answers(read.then("fault"), which, "fault");
            // Other calls, what they refuse too, leave it.
            EDGES.answers(read.feed("row.").then("end", 9).then("draw", 1, 2, 3, 4).then("run", 0, 0, 0, 1), which, "fault");
            for (int next = 0; next <= 4; next++) {
                EDGES.answers(read.text(wrong[next]), next, "fault");
            }
        }
    }

    /** "An object is used for at most 512 calls": the last of these is answered as any. */
    private static void the512thCall() {
        BeadWords x = new BeadWords();
        for (int i = 1; i <= 511; i++) {
            EDGES.due("call " + i, x.feed(i <= 294 ? ' ' : i > 300 ? '.' : "row f;".charAt(i - 295)), i <= 300 ? i : FULL);
        }
        EDGES.due("call 512", x.text(), 1);
    }
}
