/** Boundaries of promises 6 to 11 (rule, bead, many, row, words, word) and of the FORMS; each test is of one sentence. */
public final class PictureEdgesTest {
    private static final Edges EDGES = new Edges();
    private static final Check CHECK = EDGES.check();
    private static final int BAD = Edges.BAD, NONE = Edges.NONE, MIN = Edges.MIN, MAX = Edges.MAX;
    private static final int AS = 0, TURNED = 1, MIRROR = 2, TIMES = 3, PLAIN = 4;
    private static final String SIXTEEN_RUNS = "abcdefabcdefabcd";

    public static void main(String[] args) {
        rulesThereAre();
        rulesOfNoRows();
        rulesOfAFullPicture();
        wordsOfAllRows();
        linesUnlike();
        runsOfAllLines();
        coloursThereAre();
        strungAndToldRules();
        oddRowsFromTheRight();
        beadsThereAre();
        manyOfARow();
        manyInAll();
        rowsThereAre();
        whatOfARow();
        firstLikeItself();
        shortestPart();
        asTheLeastRowAhead();
        turnedTheLeastRowAhead();
        mirrorOfTwoOrMore();
        mirrorWithTheMiddleOne();
        mirrorBrokenAnywhere();
        timesTwoOrMore();
        timesTheShortestPart();
        plainAlways();
        runsAsLongAsMayBe();
        fewestWords();
        ofLikeOnesTheLeast();
        formsThereAre();
        wordsInTheirOrder();
        notSoManyWords();
        EDGES.end();
    }

    /** A row alone by a text. */
    private static Script of(String... rows) {
        StringBuilder letters = new StringBuilder();
        for (String row : rows) {
            letters.append("row ").append(row).append(';');
        }
        return new Script(String.join(" ", rows)).text(letters.toString());
    }

    // ---- promise 6

    /** rule(what): "0 .. 9 .. BAD." */
    private static void rulesThereAre() {
        EDGES.refusedEach(Edges.NEW, BAD, "rule", MIN, -1, 10, MAX);
        EDGES.refusedEach(Edges.SOME, BAD, "rule", MIN, -1, 10, MAX);
        // The lines are aabc (7 words), aabc (2), abba (5).
        int[] want = {3, 4, 1, 12, 14, 2, 9, 3, 5, 5};
        for (int what = 0; what <= 9; what++) {
            EDGES.changesNothing(Edges.SOME, want[what], "rule", what);
        }
    }

    /** "1 W (0: no ROWS)": and the rest of an empty PICTURE. */
    private static void rulesOfNoRows() {
        Script emptied = of("abc").then("change", 0, 2);
        for (int what = 0; what <= 9; what++) {
            EDGES.changesNothing(Edges.NEW, 0, "rule", what);
            EDGES.answers(emptied, 0, "rule", what);
        }
    }

    /** "ROWS (12 at most)", "W BEADS (1 to 16)". */
    private static void rulesOfAFullPicture() {
        EDGES.answers(Edges.FULL_PICTURE, 12, "rule", 0);
        EDGES.answers(Edges.FULL_PICTURE, 16, "rule", 1);
        EDGES.answers(Edges.FULL_PICTURE, 192, "rule", 3);
        EDGES.answers(Edges.FULL_PICTURE, 192, "rule", 8);
        EDGES.answers(Edges.ONE_BEAD, 1, "rule", 0);
        EDGES.answers(Edges.ONE_BEAD, 1, "rule", 1);
        EDGES.answers(Edges.ONE_BEAD, 1, "rule", 3);
    }

    /** "4 WORDS of all ROWS": the fewest and the most that there can be. */
    private static void wordsOfAllRows() {
        EDGES.answers(Edges.ONE_BEAD, 3, "rule", 4);
        EDGES.answers(Edges.NEW.then("draw", 0, 12, 16, 1), 25, "rule", 4);
        EDGES.answers(sixteenRunsEach(), 12 * 33, "rule", 4);
    }

    /** Twelve rows that differ, none of which is another's end first, of 16 runs each. */
    private static Script sixteenRunsEach() {
        Script rows = new Script("12 rows of 16 runs");
        for (int r = 0; r < 12; r++) {
            rows = rows.slip(runs(SIXTEEN_RUNS)).then("add");
        }
        int[] ninth = {0, 1, 3, 5};
        for (int r = 1; r < 12; r++) {
            // Beads 7 and 9 become others, unlike those beside them (a, c and e).
            rows = rows.then("paint", r, 7, 3 + r % 3).then("paint", r, 9, ninth[r / 3]);
        }
        return rows;
    }

    private static int[] runs(String line) {
        int[] words = new int[1 + 2 * line.length()];
        words[0] = PLAIN;
        for (int i = 0; i < line.length(); i++) {
            words[1 + 2 * i] = 1;
            words[2 + 2 * i] = line.charAt(i) - 'a';
        }
        return words;
    }

    /** "5 LINES of which there is no like one ahead". */
    private static void linesUnlike() {
        EDGES.answers(Edges.ONE_BEAD, 1, "rule", 5);
        EDGES.answers(Edges.NEW.then("draw", 0, 12, 16, 1), 1, "rule", 5);
        EDGES.answers(sixteenRunsEach(), 12, "rule", 5);
        EDGES.answers(of("ab", "ab", "ba", "ab"), 2, "rule", 5);
        EDGES.answers(of("ab", "ab", "ba", "ab").then("mode", 1), 2, "rule", 5);
        EDGES.answers(of("ab", "ba", "ab").then("mode", 1), 1, "rule", 5);
    }

    /** "6 runs of all LINES". */
    private static void runsOfAllLines() {
        EDGES.answers(Edges.ONE_BEAD, 1, "rule", 6);
        EDGES.answers(Edges.NEW.then("draw", 0, 12, 16, 1), 12, "rule", 6);
        EDGES.answers(sixteenRunsEach(), 192, "rule", 6);
        // A run ends with its line, though the next one goes on in its colour.
        EDGES.answers(of("ab", "bb"), 3, "rule", 6);
    }

    /** "7 COLOURS there are": none, one, all. */
    private static void coloursThereAre() {
        EDGES.answers(Edges.NEW, 0, "rule", 7);
        EDGES.answers(Edges.ONE_BEAD, 1, "rule", 7);
        EDGES.answers(of("abcdef"), 6, "rule", 7);
        EDGES.answers(of("af", "fa"), 2, "rule", 7);
        // What is strung is not of the picture.
        EDGES.answers(of("aaa").strand("bcd"), 1, "rule", 7);
    }

    /** "8 BEADS STRUNG, 9 WORDS on THE SLIP": from none to the most. */
    private static void strungAndToldRules() {
        EDGES.answers(Edges.FULL_SLIP, 40, "rule", 9);
        EDGES.answers(Edges.FULL_SLIP.then("tear"), 0, "rule", 9);
        EDGES.answers(Edges.FULL_SLIP, 0, "rule", 8);
        EDGES.answers(Edges.FULL_PICTURE.then("off", 192), 0, "rule", 8);
    }

    /** "by MODE 1 those of odd number from the right": rows 0, 10 not, 1, 11 so. */
    private static void oddRowsFromTheRight() {
        Script twelve = of("ab");
        for (int r = 1; r < 12; r++) {
            twelve = twelve.then("change", 0, 3);
        }
        for (int r = 0; r < 12; r++) {
            EDGES.answers(twelve, 0, "plan", 2 * r);
            EDGES.answers(twelve.then("mode", 1), r % 2, "plan", 2 * r);
            EDGES.answers(twelve.then("mode", 1), 1 - r % 2, "plan", 2 * r + 1);
            EDGES.answers(twelve.then("mode", 1), 0, "bead", r, 0);
        }
    }

    // ---- promises 7, 8

    /** bead: "The COLOUR of a BEAD, from the left. BAD." */
    private static void beadsThereAre() {
        EDGES.changesNothing(Edges.SOME, 0, "bead", 0, 0);
        EDGES.changesNothing(Edges.SOME, 2, "bead", 0, 3);
        EDGES.changesNothing(Edges.SOME, 2, "bead", 1, 0);
        EDGES.changesNothing(Edges.SOME, 0, "bead", 2, 3);
        for (int wrong : new int[] {MIN, -1, 3, 12, MAX}) {
            EDGES.refused(Edges.SOME, BAD, "bead", wrong, 0);
        }
        for (int wrong : new int[] {MIN, -1, 4, 15, 16, MAX}) {
            EDGES.refused(Edges.SOME, BAD, "bead", 0, wrong);
            EDGES.refused(Edges.SOME, BAD, "bead", 2, wrong);
        }
        EDGES.refused(Edges.FULL_PICTURE, BAD, "bead", 12, 0);
        EDGES.refused(Edges.FULL_PICTURE, BAD, "bead", 0, 16);
        EDGES.refused(Edges.FULL_PICTURE, BAD, "bead", 11, 16);
        EDGES.refused(Edges.FULL_PICTURE, BAD, "bead", -1, 16);
        EDGES.refused(Edges.NEW, BAD, "bead", 0, 0);
        // A row that has gone is none.
        EDGES.refused(of("ab", "cd").then("change", 0, 2), BAD, "bead", 1, 0);
    }

    /** many: "in a ROW .. BAD." */
    private static void manyOfARow() {
        int[] want = {2, 1, 1, 0, 0, 0};
        for (int colour = 0; colour <= 5; colour++) {
            EDGES.changesNothing(Edges.SOME, want[colour], "many", 1, colour);
        }
        for (int wrong : new int[] {MIN, -1, 6, MAX}) {
            EDGES.refused(Edges.SOME, BAD, "many", 0, wrong);
        }
        for (int wrong : new int[] {MIN, -5, -3, -2, -1, 3, 12, MAX}) {
            EDGES.refused(Edges.SOME, BAD, "many", wrong, 0);
        }
        EDGES.refused(Edges.NEW, BAD, "many", 0, 0);
        EDGES.answers(Edges.NEW.then("draw", 0, 12, 16, 1), 16, "many", 11, 0);
        EDGES.refused(Edges.FULL_PICTURE, BAD, "many", 12, 0);
    }

    /** "r NONE: in all." */
    private static void manyInAll() {
        int[] want = {6, 4, 2, 0, 0, 0};
        for (int colour = 0; colour <= 5; colour++) {
            EDGES.changesNothing(Edges.SOME, want[colour], "many", NONE, colour);
            EDGES.changesNothing(Edges.NEW, 0, "many", NONE, colour);
        }
        for (int wrong : new int[] {MIN, -1, 6, MAX}) {
            EDGES.refused(Edges.SOME, BAD, "many", NONE, wrong);
            EDGES.refused(Edges.NEW, BAD, "many", NONE, wrong);
        }
        EDGES.answers(Edges.NEW.then("draw", 0, 12, 16, 1), 192, "many", NONE, 0);
    }

    // ---- promise 9

    /** row: a ROW that there is. "BAD." */
    private static void rowsThereAre() {
        for (int wrong : new int[] {MIN, NONE, -1, 3, 12, MAX}) {
            for (int what = 0; what <= 5; what++) {
                EDGES.refused(Edges.SOME, BAD, "row", wrong, what);
            }
        }
        EDGES.refused(Edges.NEW, BAD, "row", 0, 0);
        EDGES.refused(Edges.FULL_PICTURE, BAD, "row", 12, 0);
        EDGES.answers(Edges.NEW.then("draw", 0, 12, 16, 1), 0, "row", 11, 0);
    }

    /** row: what there is to ask, 0 to 5. "BAD." */
    private static void whatOfARow() {
        int[] want = {AS, 2, 3, 0, 2, 4};
        for (int what = 0; what <= 5; what++) {
            EDGES.changesNothing(Edges.SOME, want[what], "row", 1, what);
        }
        for (int wrong : new int[] {MIN, -1, 6, MAX}) {
            EDGES.refused(Edges.SOME, BAD, "row", 0, wrong);
            EDGES.refused(Edges.SOME, BAD, "row", 3, wrong);
        }
        EDGES.answers(Edges.ONE_BEAD, PLAIN, "row", 0, 0);
        EDGES.answers(Edges.ONE_BEAD, 3, "row", 0, 1);
        EDGES.answers(Edges.ONE_BEAD, 1, "row", 0, 2);
        EDGES.answers(sixteenRunsEach(), 16, "row", 11, 2);
        EDGES.answers(sixteenRunsEach(), 33, "row", 11, 1);
    }

    /** "3 the first ROW whose LINE is the same (perhaps itself), 4 how many such there are". */
    private static void firstLikeItself() {
        Script rows = of("ab", "ba", "cd", "ba", "ba");
        int[] first = {0, 1, 2, 1, 1};
        int[] many = {1, 3, 1, 3, 3};
        for (int r = 0; r < 5; r++) {
            EDGES.answers(rows, first[r], "row", r, 3);
            EDGES.answers(rows, many[r], "row", r, 4);
        }
        EDGES.answers(Edges.NEW.then("draw", 0, 12, 16, 1), 0, "row", 11, 3);
        EDGES.answers(Edges.NEW.then("draw", 0, 12, 16, 1), 12, "row", 0, 4);
        EDGES.answers(sixteenRunsEach(), 11, "row", 11, 3);
        EDGES.answers(sixteenRunsEach(), 1, "row", 11, 4);
    }

    /** "5 the shortest part of which its LINE is some times": once, too. */
    private static void shortestPart() {
        EDGES.answers(of("a"), 1, "row", 0, 5);
        EDGES.answers(of("aa"), 1, "row", 0, 5);
        EDGES.answers(of("ab"), 2, "row", 0, 5);
        EDGES.answers(of("abc"), 3, "row", 0, 5);
        EDGES.answers(of("aba"), 3, "row", 0, 5);
        EDGES.answers(of("abababababababab"), 2, "row", 0, 5);
        EDGES.answers(of("abacabacabacabac"), 4, "row", 0, 5);
        EDGES.answers(of("aaaaaaabaaaaaaab"), 8, "row", 0, 5);
        EDGES.answers(of("aaaaaaabaaaaaaaa"), 16, "row", 0, 5);
        EDGES.answers(of("aaaaaaaaaaaaaaaa"), 1, "row", 0, 5);
        EDGES.answers(of("aaaaaaaaaaaaaaab"), 16, "row", 0, 5);
        // A part that its end cuts off is none.
        EDGES.answers(of("abcabcab"), 8, "row", 0, 5);
    }

    // ---- the forms

    private static int wordsBy(int form, String... rows) {
        return of(rows).made().words(rows.length - 1, form);
    }

    private static void words(int want, int form, String... rows) {
        CHECK.due("words by " + form + " of " + String.join(" ", rows), wordsBy(form, rows), want);
    }

    /** "0 AS: 0, k: k the least ROW ahead whose LINE is the same." */
    private static void asTheLeastRowAhead() {
        words(NONE, AS, "ab");
        words(2, AS, "ab", "ab");
        words(NONE, AS, "ab", "ba");
        words(NONE, AS, "ab", "bb");
        words(NONE, AS, "ab", "aa");
        EDGES.answers(of("ab", "ab"), NONE, "words", 0, AS);
        CHECK.told(of("cd", "ab", "ab", "ab").made(), 3, AS, 1);
        CHECK.told(Edges.NEW.then("draw", 0, 12, 16, 1).made(), 11, AS, 0);
        Script last = sixteenRunsEach().then("change", 0, 2).then("change", 10, 3);
        CHECK.told(last.made(), 11, AS, 10);
    }

    /** "1 TURNED: 1, k: k the least ROW ahead whose LINE, from its end, is the same." */
    private static void turnedTheLeastRowAhead() {
        words(NONE, TURNED, "ab");
        words(2, TURNED, "ab", "ba");
        words(NONE, TURNED, "ab", "ab");
        words(2, TURNED, "aa", "aa");
        words(2, TURNED, "a", "a");
        words(NONE, TURNED, "abc", "cbb");
        words(NONE, TURNED, "abc", "bba");
        // Its own line, and one behind it, are not ahead.
        words(NONE, TURNED, "aa");
        EDGES.answers(of("ab", "ba"), NONE, "words", 0, TURNED);
        CHECK.told(of("cd", "ab", "ab", "ba").made(), 3, TURNED, 1);
        CHECK.told(of("ab", "ab").then("mode", 1).made(), 1, TURNED, 0);
    }

    /** "2 MIRROR: .. if the LINE from its end is the same as it is, and W is 2 or more." */
    private static void mirrorOfTwoOrMore() {
        words(NONE, MIRROR, "a");
        words(3, MIRROR, "aa");
        words(NONE, MIRROR, "ab");
        words(3, MIRROR, "aaa");
        words(5, MIRROR, "aba");
        words(NONE, MIRROR, "abb");
        words(NONE, MIRROR, "aab");
    }

    /** "RUNS of its first half (of odd W with the middle one)". */
    private static void mirrorWithTheMiddleOne() {
        String half = "abcdefab";
        for (int h = 1; h <= 8; h++) {
            String part = half.substring(0, h);
            String back = new StringBuilder(part).reverse().toString();
            words(1 + 2 * h, MIRROR, part + back);
            if (h > 1) {
                words(1 + 2 * h, MIRROR, part + back.substring(1));
                CHECK.told(of(part + back.substring(1)).made(), 0, mirrored(part));
                CHECK.told(of(part + back).made(), 0, mirrored(part));
            }
        }
        CHECK.told(of("abba").made(), 0, MIRROR, 1, 0, 1, 1);
        CHECK.told(of("abcba").made(), 0, MIRROR, 1, 0, 1, 1, 1, 2);
        // The run in the middle is cut off behind the half.
        CHECK.told(of("abbba").made(), 0, MIRROR, 1, 0, 2, 1);
        CHECK.told(of("abbbba").made(), 0, MIRROR, 1, 0, 2, 1);
    }

    private static int[] mirrored(String half) {
        int[] words = runs(half);
        words[0] = MIRROR;
        return words;
    }

    /** "if the LINE from its end is the same as it is": each pair of beads. */
    private static void mirrorBrokenAnywhere() {
        for (int w = 2; w <= 16; w++) {
            StringBuilder line = new StringBuilder("a".repeat(w));
            words(3, MIRROR, line.toString());
            for (int i = 0; i < w; i++) {
                line.setCharAt(i, 'b');
                boolean middle = i == w - 1 - i;
                CHECK.due("mirror of " + line, wordsBy(MIRROR, line.toString()) == NONE ? 0 : 1, middle ? 1 : 0);
                line.setCharAt(i, 'a');
            }
        }
    }

    /** "3 TIMES: 3, n, .. if the LINE is n times (2 or more) a part". */
    private static void timesTwoOrMore() {
        words(NONE, TIMES, "a");
        words(4, TIMES, "aa");
        words(NONE, TIMES, "ab");
        words(6, TIMES, "abab");
        words(NONE, TIMES, "aba");
        words(NONE, TIMES, "abcabca");
        words(4, TIMES, "aaaaaaa");
        words(18, TIMES, "abcdefababcdefab");
        words(NONE, TIMES, "abcdefababcdefac");
        words(NONE, TIMES, "bbcdefababcdefab");
    }

    /** "the shortest such part". */
    private static void timesTheShortestPart() {
        String part = "abcdefab";
        for (int w = 2; w <= 16; w++) {
            words(4, TIMES, "a".repeat(w));
            for (int p = 2; p <= w / 2; p++) {
                if (w % p == 0) {
                    String line = part.substring(0, p).repeat(w / p);
                    words(2 + 2 * p, TIMES, line);
                    EDGES.answers(of(line), p, "row", 0, 5);
                }
            }
        }
        CHECK.told(of("abababababababab").made(), 0, TIMES, 8, 1, 0, 1, 1);
        CHECK.told(of("aabaabaabaab").made(), 0, TIMES, 4, 2, 0, 1, 1);
    }

    /** "4 PLAIN: 4, then RUNS of the LINE": any line. */
    private static void plainAlways() {
        words(3, PLAIN, "f");
        words(3, PLAIN, "aaaaaaaaaaaaaaaa");
        words(33, PLAIN, SIXTEEN_RUNS);
        words(5, PLAIN, "aaaaaaaaaaaaaaab");
        words(5, PLAIN, "abbbbbbbbbbbbbbb");
        words(5, PLAIN, "ab", "ab");
    }

    /** "RUNS: of each run of BEADS of one COLOUR, as long as may be, how many, the COLOUR." */
    private static void runsAsLongAsMayBe() {
        CHECK.told(of("f").made(), 0, PLAIN, 1, 5);
        CHECK.told(of("aaaaaaaaaaaaaaaf").made(), 0, PLAIN, 15, 0, 1, 5);
        CHECK.told(of("faaaaaaaaaaaaaaa").made(), 0, PLAIN, 1, 5, 15, 0);
        CHECK.told(of("aabccc").made(), 0, PLAIN, 2, 0, 1, 1, 3, 2);
        // Two runs of one colour with another between stay two.
        CHECK.told(of("aabaaa").made(), 0, PLAIN, 2, 0, 1, 1, 3, 0);
        CHECK.told(of(SIXTEEN_RUNS).made(), 0, runs(SIXTEEN_RUNS));
    }

    /** "Its FORM is that which there is with the fewest WORDS". */
    private static void fewestWords() {
        // Mirror 7 words, times 8, plain 11.
        CHECK.told(of("abaaba").made(), 0, MIRROR, 1, 0, 1, 1, 1, 0);
        // Times 8 words, mirror 13, plain 17.
        CHECK.told(of("abaabaabaaba").made(), 0, TIMES, 4, 1, 0, 1, 1, 1, 0);
        // Plain 5 words, times there is none, mirror there is none.
        CHECK.told(of("aaabb").made(), 0, PLAIN, 3, 0, 2, 1);
        // Times 6 words, plain 9.
        CHECK.told(of("abab").made(), 0, TIMES, 2, 1, 0, 1, 1);
        // As one ahead: 2, ahead of all.
        CHECK.told(of("abab", "abab").made(), 1, AS, 0);
        CHECK.told(of("abab", "baba").made(), 1, TURNED, 0);
    }

    /** "of like ones the least". */
    private static void ofLikeOnesTheLeast() {
        // As and turned, 2 words each.
        CHECK.told(of("aba", "aba").made(), 1, AS, 0);
        CHECK.told(of("ab", "ba", "ba").made(), 2, AS, 1);
        // Mirror and plain, 3 words each.
        for (int w = 2; w <= 16; w++) {
            CHECK.told(of("c".repeat(w)).made(), 0, MIRROR, (w + 1) / 2, 2);
        }
        CHECK.told(of("c").made(), 0, PLAIN, 1, 2);
    }

    // ---- promises 10, 11

    /** words: "by a FORM (0 to 4). BAD; NONE: it can not be told so." */
    private static void formsThereAre() {
        int[] want = {NONE, NONE, NONE, NONE, 7};
        for (int form = 0; form <= 4; form++) {
            EDGES.changesNothing(Edges.SOME, want[form], "words", 0, form);
        }
        for (int wrong : new int[] {MIN, -1, 5, MAX}) {
            EDGES.refused(Edges.SOME, BAD, "words", 0, wrong);
            EDGES.refused(Edges.NEW, BAD, "words", 0, wrong);
        }
        for (int wrong : new int[] {MIN, NONE, -1, 3, 12, MAX}) {
            for (int form = 0; form <= 4; form++) {
                EDGES.refused(Edges.SOME, BAD, "words", wrong, form);
            }
        }
        EDGES.refused(Edges.NEW, BAD, "words", 0, PLAIN);
        EDGES.refused(Edges.FULL_PICTURE, BAD, "words", 12, AS);
    }

    /** word: "WORD i (0 on) of a ROW by its FORM. BAD: r, i below 0". */
    private static void wordsInTheirOrder() {
        int[] want = {PLAIN, 2, 0, 1, 1, 1, 2};
        for (int i = 0; i < want.length; i++) {
            EDGES.changesNothing(Edges.SOME, want[i], "word", 0, i);
        }
        for (int wrong : new int[] {MIN, NONE, -1, 3, 12, MAX}) {
            EDGES.refused(Edges.SOME, BAD, "word", wrong, 0);
            EDGES.refused(Edges.SOME, BAD, "word", wrong, MAX);
        }
        for (int wrong : new int[] {MIN, NONE, -1}) {
            EDGES.refused(Edges.SOME, BAD, "word", 0, wrong);
        }
        EDGES.refused(Edges.NEW, BAD, "word", 0, 0);
        EDGES.refused(Edges.FULL_PICTURE, BAD, "word", 12, 0);
    }

    /** "NONE: there are not so many." */
    private static void notSoManyWords() {
        for (int i : new int[] {7, 8, 33, 40, MAX}) {
            EDGES.refused(Edges.SOME, NONE, "word", 0, i);
        }
        EDGES.answers(Edges.SOME, 0, "word", 1, 1);
        EDGES.refused(Edges.SOME, NONE, "word", 1, 2);
        EDGES.answers(sixteenRunsEach(), 3, "word", 0, 32);
        EDGES.answers(sixteenRunsEach(), NONE, "word", 0, 33);
        EDGES.answers(Edges.ONE_BEAD, 5, "word", 0, 2);
        EDGES.refused(Edges.ONE_BEAD, NONE, "word", 0, 3);
    }
}
