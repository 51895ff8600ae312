/** Boundaries of promises 21 to 26 (paint, dye, change, swap, mode, draw); each test is of one sentence. */
public final class HandEdgesTest {
    private static final Edges EDGES = new Edges();
    private static final Check CHECK = EDGES.check();
    private static final int BAD = Edges.BAD, FULL = Edges.FULL, NONE = Edges.NONE, MIN = Edges.MIN, MAX = Edges.MAX;
    private static final int TURN = 0, MOVE_ON = 1, GO = 2, REPEAT = 3;

    public static void main(String[] args) {
        nothingIsStrungThen();
        whatStaysByHand();
        paintBeadsThereAre();
        paintColours();
        paintTheSame();
        dyeColours();
        dyeNoneAndAll();
        changeRowsThereAre();
        changeWhat();
        changeRepeatsToTwelve();
        changeBadAheadOfFull();
        changeOtherwiseOfTwelve();
        turnedRound();
        onByOne();
        goes();
        goesTheLast();
        onceMoreBehindItself();
        swapRowsThereAre();
        swapTheSame();
        swapAlikeFromTheLeft();
        modes();
        drawRowsBeadsColours();
        drawModeAndImagesStay();
        drawInPlaceOfWhatThereWas();
        drawByAnySeed();
        drawAsARowAhead();
        drawAPartAgain();
        EDGES.end();
    }

    private static Script of(String letters) {
        return new Script(letters).text(letters);
    }

    /** Each row, from the left, and that there are no more. */
    private static void rows(Script state, String... want) {
        BeadWords x = state.made();
        CHECK.due(state.name() + ": rule(0)", x.rule(0), want.length);
        for (int r = 0; r < want.length; r++) {
            CHECK.beads(x, r, want[r]);
        }
        CHECK.due(state.name() + ": a row more", x.bead(want.length, 0), BAD);
    }

    /** "by hand (nothing is STRUNG then)": also where THE PICTURE is as it was. */
    private static void nothingIsStrungThen() {
        Script s = Edges.SOME;
        Script[] done = {s.then("paint", 0, 0, 5), s.then("paint", 0, 0, 0), s.then("dye", 0, 1), s.then("dye", 5, 0),
            s.then("dye", 0, 0), s.then("change", 0, TURN), s.then("change", 0, MOVE_ON), s.then("change", 2, GO),
            s.then("change", 2, REPEAT), s.then("swap", 0, 1), s.then("swap", 2, 2), s.then("mode", 0), s.then("mode", 1),
            s.then("draw", 1, 3, 4, 2)};
        for (Script then : done) {
            EDGES.answers(then, 0, "rule", 8);
            EDGES.answers(then, NONE, "mistake", 0);
            EDGES.refused(then, BAD, "off", 1);
            EDGES.answers(then, 1, "string", 0);
        }
        Script[] ofNothing = {Edges.NEW.then("dye", 0, 1), Edges.NEW.then("mode", 0)};
        for (Script then : ofNothing) {
            EDGES.answers(then, 0, "rule", 8);
        }
    }

    /** What no word of theirs names stays: THE SLIP, THE TAPE, SHEETS, IMAGES, the FAULTS that were told. */
    private static void whatStaysByHand() {
        Script s = Edges.SOME;
        Script[] done = {s.then("paint", 0, 0, 5), s.then("dye", 0, 1), s.then("change", 0, GO), s.then("swap", 0, 1),
            s.then("mode", 0), s.then("draw", 1, 3, 4, 2)};
        for (Script then : done) {
            EDGES.answers(then, 5, "rule", 9);
            EDGES.answers(then, 9, "count", 1);
            EDGES.answers(then, 5, "count", 2);
            EDGES.answers(then, 1, "count", 0);
            EDGES.answers(then, 1, "fault");
            EDGES.answers(then, 3, "torn");
            EDGES.answers(then, 3, "back", 0);
            EDGES.answers(then.then("back", 0), 3, "rule", 8);
            rows(then.then("back", 0), "aabc", "cbaa", "abba");
            EDGES.answers(then.then("back", 0), 1, "rule", 2);
        }
    }

    // ---- promise 21

    /** paint: a BEAD that there is. "BAD." */
    private static void paintBeadsThereAre() {
        for (int wrong : new int[] {MIN, NONE, -1, 3, 12, MAX}) {
            EDGES.refused(Edges.SOME, BAD, "paint", wrong, 0, 0);
        }
        for (int wrong : new int[] {MIN, -1, 4, 15, 16, MAX}) {
            EDGES.refused(Edges.SOME, BAD, "paint", 0, wrong, 0);
            EDGES.refused(Edges.SOME, BAD, "paint", 2, wrong, 0);
        }
        EDGES.refused(Edges.NEW, BAD, "paint", 0, 0, 0);
        EDGES.refused(Edges.FULL_PICTURE, BAD, "paint", 12, 0, 0);
        EDGES.refused(Edges.FULL_PICTURE, BAD, "paint", 11, 16, 0);
        EDGES.answers(Edges.SOME, 2, "paint", 0, 3, 5);
        EDGES.answers(Edges.SOME, 2, "paint", 1, 0, 5);
        rows(Edges.SOME.then("paint", 0, 3, 5).then("paint", 1, 0, 4).then("paint", 2, 3, 3), "aabf", "ebaa", "abbd");
        EDGES.answers(Edges.FULL_PICTURE.then("paint", 11, 15, 3), 3, "paint", 11, 15, 0);
    }

    /** paint: COLOURS 0 to 5. "what it was. BAD." */
    private static void paintColours() {
        for (int colour = 0; colour <= 5; colour++) {
            EDGES.answers(Edges.SOME, 1, "paint", 0, 2, colour);
            EDGES.answers(Edges.SOME.then("paint", 0, 2, colour), colour, "bead", 0, 2);
            EDGES.answers(Edges.SOME.then("paint", 0, 2, colour), colour, "paint", 0, 2, 0);
        }
        for (int wrong : new int[] {MIN, -1, 6, MAX}) {
            EDGES.refused(Edges.SOME, BAD, "paint", 0, 0, wrong);
            EDGES.refused(Edges.SOME, BAD, "paint", 3, 0, wrong);
        }
    }

    /** A BEAD may become what it was. */
    private static void paintTheSame() {
        EDGES.answers(Edges.SOME, 1, "paint", 0, 2, 1);
        rows(Edges.SOME.then("paint", 0, 2, 1), "aabc", "cbaa", "abba");
    }

    // ---- promise 22

    /** dye: COLOURS 0 to 5, both. "BAD." */
    private static void dyeColours() {
        for (int wrong : new int[] {MIN, -1, 6, MAX}) {
            EDGES.refused(Edges.SOME, BAD, "dye", 0, wrong);
            EDGES.refused(Edges.SOME, BAD, "dye", wrong, 0);
            EDGES.refused(Edges.SOME, BAD, "dye", wrong, wrong);
            EDGES.refused(Edges.NEW, BAD, "dye", 0, wrong);
            EDGES.refused(Edges.NEW, BAD, "dye", wrong, 0);
        }
        EDGES.answers(Edges.SOME, 6, "dye", 0, 5);
        rows(Edges.SOME.then("dye", 0, 5), "ffbc", "cbff", "fbbf");
        EDGES.answers(of("row fa;"), 1, "dye", 5, 0);
        rows(of("row fa;").then("dye", 5, 0), "aa");
    }

    /** "how many": none, all; of the same COLOUR. */
    private static void dyeNoneAndAll() {
        EDGES.answers(Edges.SOME, 0, "dye", 3, 0);
        rows(Edges.SOME.then("dye", 3, 0), "aabc", "cbaa", "abba");
        EDGES.changesNothing(Edges.NEW, 0, "dye", 0, 1);
        EDGES.answers(Edges.NEW.then("draw", 0, 12, 16, 1), 192, "dye", 0, 5);
        EDGES.answers(Edges.NEW.then("draw", 0, 12, 16, 1).then("dye", 0, 5), 192, "many", NONE, 5);
        EDGES.answers(Edges.SOME, 6, "dye", 0, 0);
        rows(Edges.SOME.then("dye", 0, 0), "aabc", "cbaa", "abba");
    }

    // ---- promise 23

    /** change: a ROW that there is. "BAD". */
    private static void changeRowsThereAre() {
        for (int what = TURN; what <= REPEAT; what++) {
            for (int wrong : new int[] {MIN, NONE, -1, 3, 11, 12, MAX}) {
                EDGES.refused(Edges.SOME, BAD, "change", wrong, what);
            }
            EDGES.refused(Edges.NEW, BAD, "change", 0, what);
            EDGES.answers(Edges.SOME, what == GO ? 2 : what == REPEAT ? 4 : 3, "change", 0, what);
            EDGES.answers(Edges.SOME, what == GO ? 2 : what == REPEAT ? 4 : 3, "change", 2, what);
        }
    }

    /** change: what 0 to 3. "BAD". */
    private static void changeWhat() {
        for (int wrong : new int[] {MIN, -1, 4, MAX}) {
            EDGES.refused(Edges.SOME, BAD, "change", 0, wrong);
            EDGES.refused(Edges.SOME, BAD, "change", 3, wrong);
            EDGES.refused(Edges.NEW, BAD, "change", 0, wrong);
        }
    }

    /** "FULL: 12 (3)." */
    private static void changeRepeatsToTwelve() {
        Script rows = of("row ab;");
        for (int many = 2; many <= 12; many++) {
            EDGES.answers(rows, many, "change", many - 2, REPEAT);
            rows = rows.then("change", many - 2, REPEAT);
        }
        EDGES.refused(rows, FULL, "change", 0, REPEAT);
        EDGES.refused(rows, FULL, "change", 11, REPEAT);
        EDGES.refused(Edges.FULL_PICTURE, FULL, "change", 0, REPEAT);
        EDGES.refused(Edges.FULL_PICTURE, FULL, "change", 11, REPEAT);
        EDGES.answers(Edges.FULL_PICTURE.then("change", 0, GO), 12, "change", 10, REPEAT);
    }

    /** BAD, FULL: "the first that fits". */
    private static void changeBadAheadOfFull() {
        for (int wrong : new int[] {MIN, -1, 12, MAX}) {
            EDGES.refused(Edges.FULL_PICTURE, BAD, "change", wrong, REPEAT);
        }
        for (int wrong : new int[] {MIN, -1, 4, MAX}) {
            EDGES.refused(Edges.FULL_PICTURE, BAD, "change", 0, wrong);
        }
    }

    /** "(3)": FULL is of no other. */
    private static void changeOtherwiseOfTwelve() {
        EDGES.answers(Edges.FULL_PICTURE, 12, "change", 11, TURN);
        EDGES.answers(Edges.FULL_PICTURE, 12, "change", 11, MOVE_ON);
        EDGES.answers(Edges.FULL_PICTURE, 11, "change", 11, GO);
    }

    /** "turned round (what 0)": of one bead, of odd and of even W. */
    private static void turnedRound() {
        rows(of("row f;").then("change", 0, TURN), "f");
        rows(of("row ab;").then("change", 0, TURN), "ba");
        rows(of("row abc;").then("change", 0, TURN), "cba");
        rows(of("row abcdefabcdefabcd;").then("change", 0, TURN), "dcbafedcbafedcba");
        rows(of("fro;row abc;row abc;row abc;").then("change", 1, TURN), "abc", "cba", "abc");
    }

    /** "goes on by one to the right, the last one first (1)": also where a ROW is READ from the right. */
    private static void onByOne() {
        rows(of("row f;").then("change", 0, MOVE_ON), "f");
        rows(of("row ab;").then("change", 0, MOVE_ON), "ba");
        rows(of("row abc;").then("change", 0, MOVE_ON), "cab");
        rows(of("row abcdefabcdefabcf;").then("change", 0, MOVE_ON), "fabcdefabcdefabc");
        rows(of("fro;row abc;row abc;row abc;").then("change", 1, MOVE_ON), "abc", "cab", "abc");
    }

    /** "goes (2)": the first, one between, the last. */
    private static void goes() {
        Script three = of("row ab;row cd;row ef;");
        rows(three.then("change", 0, GO), "cd", "ef");
        rows(three.then("change", 1, GO), "ab", "ef");
        rows(three.then("change", 2, GO), "ab", "cd");
        // A row whose number is even then is read from the left.
        CHECK.plan(three.then("mode", 1).then("change", 0, GO).made(), "cdfe");
    }

    /** The same of the only ROW: none, W 0; MODE stays. */
    private static void goesTheLast() {
        Script none = of("fro;row abc;").then("keep", 0);
        EDGES.answers(none, 0, "change", 0, GO);
        none = none.then("change", 0, GO);
        EDGES.answers(none, 0, "rule", 0);
        EDGES.answers(none, 0, "rule", 1);
        EDGES.answers(none, 1, "rule", 2);
        EDGES.answers(none, 0, "rule", 3);
        EDGES.refused(none, BAD, "change", 0, GO);
        EDGES.refused(none, FULL, "string", 0);
        EDGES.answers(none, 1, "back", 0);
    }

    /** "comes once more behind itself (3)": the first, the last. */
    private static void onceMoreBehindItself() {
        Script two = of("row ab;row cd;");
        rows(two.then("change", 0, REPEAT), "ab", "ab", "cd");
        rows(two.then("change", 1, REPEAT), "ab", "cd", "cd");
        // Its beads from the left are the same, its line by mode 1 is not.
        CHECK.plan(two.then("mode", 1).then("change", 0, REPEAT).made(), "abbacd");
        // One of the two may change without the other.
        rows(two.then("change", 0, REPEAT).then("paint", 0, 0, 5), "fb", "ab", "cd");
        rows(two.then("change", 0, REPEAT).then("paint", 1, 0, 5), "ab", "fb", "cd");
    }

    // ---- promises 24, 25

    /** swap: ROWS that there are, both. "BAD." */
    private static void swapRowsThereAre() {
        for (int wrong : new int[] {MIN, NONE, -1, 3, 12, MAX}) {
            EDGES.refused(Edges.SOME, BAD, "swap", 0, wrong);
            EDGES.refused(Edges.SOME, BAD, "swap", wrong, 0);
            EDGES.refused(Edges.SOME, BAD, "swap", wrong, wrong);
        }
        EDGES.refused(Edges.NEW, BAD, "swap", 0, 0);
        EDGES.refused(Edges.FULL_PICTURE, BAD, "swap", 0, 12);
        EDGES.refused(Edges.FULL_PICTURE, BAD, "swap", 12, 0);
        EDGES.answers(Edges.SOME, 0, "swap", 0, 2);
        rows(Edges.SOME.then("swap", 0, 2), "abba", "cbaa", "aabc");
        rows(Edges.SOME.then("swap", 2, 0), "abba", "cbaa", "aabc");
        Script first = Edges.FULL_PICTURE.then("dye", 5, 4).then("paint", 0, 15, 5).then("swap", 0, 11);
        EDGES.answers(first, 5, "bead", 11, 15);
        EDGES.answers(first, 0, "many", 0, 5);
    }

    /** "Two ROWS (perhaps the same)". */
    private static void swapTheSame() {
        for (int r = 0; r < 3; r++) {
            EDGES.answers(Edges.SOME, 1, "swap", r, r);
            rows(Edges.SOME.then("swap", r, r), "aabc", "cbaa", "abba");
        }
        EDGES.answers(Edges.ONE_BEAD, 1, "swap", 0, 0);
    }

    /** "1, if they were alike (from the left), 0 if not." */
    private static void swapAlikeFromTheLeft() {
        EDGES.answers(of("fro;row abc;row abc;"), 1, "swap", 0, 1);
        EDGES.answers(of("fro;row abc;row cba;"), 0, "swap", 0, 1);
        EDGES.answers(of("row abc;row bbc;"), 0, "swap", 0, 1);
        EDGES.answers(of("row abc;row abb;"), 0, "swap", 1, 0);
        EDGES.answers(of("row a;row b;"), 0, "swap", 0, 1);
        EDGES.answers(of("row a;row a;"), 1, "swap", 0, 1);
        // The last beads of a full picture; what was there beyond a narrower one does not count.
        EDGES.answers(Edges.FULL_PICTURE, 1, "swap", 11, 11);
        EDGES.answers(Edges.NEW.then("draw", 0, 12, 16, 1), 1, "swap", 10, 11);
        EDGES.answers(Edges.FULL_PICTURE.then("draw", 0, 12, 1, 1), 1, "swap", 0, 1);
        for (int w = 1; w <= 15; w++) {
            Script narrow = of("row aaaaaaaaaaaaaaaa;row bbbbbbbbbbbbbbbb;").then("draw", 0, 2, w, 1);
            EDGES.answers(narrow, 1, "swap", 0, 1);
            EDGES.answers(narrow, 2, "row", 1, 4);
        }
    }

    /** mode: "MODE becomes v: what it was. BAD." */
    private static void modes() {
        EDGES.refusedEach(Edges.NEW, BAD, "mode", MIN, -1, 2, MAX);
        EDGES.refusedEach(Edges.SOME, BAD, "mode", MIN, -1, 2, MAX);
        EDGES.answers(Edges.NEW, 0, "mode", 0);
        EDGES.answers(Edges.NEW, 0, "mode", 1);
        EDGES.answers(Edges.SOME, 1, "mode", 0);
        EDGES.answers(Edges.SOME, 1, "mode", 1);
        EDGES.answers(Edges.SOME.then("mode", 0), 0, "rule", 2);
        EDGES.answers(Edges.SOME.then("mode", 1), 1, "rule", 2);
        // Of an empty picture, too: the rows that come then are read so.
        EDGES.answers(Edges.NEW.then("mode", 1).then("draw", 1, 2, 3, 4), 1, "rule", 2);
        rows(Edges.SOME.then("mode", 0), "aabc", "cbaa", "abba");
    }

    // ---- promise 26

    /** "n ROWS (1 to 12) of w BEADS (1 to 16), of COLOURS below k (1 to 6) .. BEADS of all. BAD." */
    private static void drawRowsBeadsColours() {
        for (int wrong : new int[] {MIN, -1, 0, 13, MAX}) {
            EDGES.refused(Edges.SOME, BAD, "draw", 1, wrong, 1, 1);
            EDGES.refused(Edges.NEW, BAD, "draw", 1, wrong, 16, 6);
        }
        for (int wrong : new int[] {MIN, -1, 0, 17, MAX}) {
            EDGES.refused(Edges.SOME, BAD, "draw", 1, 1, wrong, 1);
            EDGES.refused(Edges.NEW, BAD, "draw", 1, 12, wrong, 6);
        }
        for (int wrong : new int[] {MIN, -1, 0, 7, MAX}) {
            EDGES.refused(Edges.SOME, BAD, "draw", 1, 1, 1, wrong);
            EDGES.refused(Edges.NEW, BAD, "draw", 1, 12, 16, wrong);
        }
        for (int n = 1; n <= 12; n++) {
            for (int w = 1; w <= 16; w++) {
                EDGES.answers(Edges.SOME, n * w, "draw", 7, n, w, 6);
                EDGES.answers(Edges.SOME.then("draw", 7, n, w, 6), n, "rule", 0);
                EDGES.answers(Edges.SOME.then("draw", 7, n, w, 6), w, "rule", 1);
            }
        }
        for (int k = 1; k <= 6; k++) {
            EDGES.answers(Edges.NEW.then("draw", 2, 12, 16, k), k, "rule", 7);
        }
    }

    /** "MODE, IMAGES stay". */
    private static void drawModeAndImagesStay() {
        for (int v = 0; v <= 1; v++) {
            Script drawn = Edges.SOME.then("mode", v).then("draw", 1, 2, 3, 4);
            EDGES.answers(drawn, v, "rule", 2);
            EDGES.answers(drawn, 1, "count", 0);
            EDGES.answers(drawn, 3, "back", 0);
            EDGES.refused(drawn, Edges.STATE, "back", 1);
        }
        // Beads are got from the left whatever the mode is.
        rows(Edges.NEW.then("draw", 1, 3, 4, 6), "edbb", "adaa", "aaff");
        rows(Edges.NEW.then("mode", 1).then("draw", 1, 3, 4, 6), "edbb", "adaa", "aaff");
    }

    /** The rows that there were, more or broader ones too, are gone. */
    private static void drawInPlaceOfWhatThereWas() {
        rows(Edges.FULL_PICTURE.then("draw", 1, 3, 4, 6), "edbb", "adaa", "aaff");
        rows(Edges.ONE_BEAD.then("draw", 1, 3, 4, 6), "edbb", "adaa", "aaff");
        rows(Edges.FULL_PICTURE.then("draw", 1, 1, 1, 1), "a");
    }

    /** "the seed becomes seed times 1103515245 and 12345; bits 16 to 30 of it are got": by any int. */
    private static void drawByAnySeed() {
        rows(Edges.NEW.then("draw", 0, 3, 4, 6), "aeba", "bbce", "bbbb");
        rows(Edges.NEW.then("draw", -1, 3, 4, 6), "eaea", "cfec", "fbde");
        // The highest bit is never got.
        rows(Edges.NEW.then("draw", MIN, 3, 4, 6), "aeba", "bbce", "bbbb");
        rows(Edges.NEW.then("draw", MAX, 3, 4, 6), "eaea", "cfec", "fbde");
        for (int seed : new int[] {MIN, MIN + 1, -65536, -1, 0, 1, 65535, 65536, 1 << 30, MAX - 1, MAX}) {
            for (int k = 1; k <= 6; k++) {
                rows(Edges.NEW.then("draw", seed, 12, 16, k), Model.drawn(seed, 12, 16, k));
                rows(Edges.NEW.then("draw", seed, 12, 1, k), Model.drawn(seed, 12, 1, k));
                rows(Edges.NEW.then("draw", seed, 1, 16, k), Model.drawn(seed, 1, 16, k));
            }
        }
    }

    /** "0, and there is a ROW ahead": of ROW 0 there is none. */
    private static void drawAsARowAhead() {
        // 0 is got for row 0: all its beads are got.
        rows(Edges.NEW.then("draw", 2, 3, 4, 6), "fdcb", "abef", "effc");
        rows(Edges.NEW.then("draw", 7, 1, 4, 6), "ccaf");
        // 0 is got for row 1: as row 0, the only one ahead.
        rows(Edges.NEW.then("draw", 3, 3, 4, 6), "ddca", "ddca", "cbfe");
        // 0 is got for row 2: as row 1 of two.
        rows(Edges.NEW.then("draw", 6, 3, 4, 6), "dcae", "fbfb", "fbfb");
    }

    /** "1: got modulo w, and 1, is how many BEADS are got .. these again and again up to w". */
    private static void drawAPartAgain() {
        // Of one bead, of three of four (cut off), of all four.
        rows(Edges.NEW.then("draw", 11, 3, 4, 6), "bbbb", "bbbb", "bade");
        rows(Edges.NEW.then("draw", 4, 3, 4, 6), "ddfd", "ddfd", "ddfd");
        rows(Edges.NEW.then("draw", 8, 3, 4, 6), "ccbe", "edbd", "fabd");
        rows(Edges.NEW.then("draw", 9, 3, 4, 6), "bbbe", "dabd", "dede");
    }
}
