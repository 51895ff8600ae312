/** Boundaries of promises 17 to 20 (string, off, plan, mistake) and of THE THREAD; each test is of one sentence. */
public final class ThreadEdgesTest {
    private static final Edges EDGES = new Edges();
    private static final Check CHECK = EDGES.check();
    private static final int BAD = Edges.BAD, FULL = Edges.FULL, NONE = Edges.NONE, MIN = Edges.MIN, MAX = Edges.MAX;
    private static final int WRONG = 0, LEFT_OUT = 1, DOUBLED = 2;

    public static void main(String[] args) {
        coloursToString();
        asManyAsThePicture();
        badAheadOfFull();
        fullOfNothing();
        fullAsThePictureGrows();
        offFromNoneToAll();
        offMoreThanThereAre();
        offTheLatest();
        planThereIs();
        planOfNothing();
        planToAndFro();
        whatOfAMistake();
        noMistake();
        badAheadOfNone();
        theFirstAndTheLastBead();
        theFirstThatIsNot();
        itsRowAndWhichItIs();
        wrongAboveTheMistake();
        leftOutFromTheMistakeOn();
        leftOutWhereThereIsThat();
        doubledAboveTheMistake();
        likeKindsTheLeast();
        offSoThatNoneIs();
        EDGES.end();
    }

    private static Script of(String letters) {
        return new Script(letters).text(letters);
    }

    /** mistake(0) to mistake(6) of beads beside a picture: at, row, place, colour, kind, as told, off. */
    private static void mistake(Script picture, String beads, int... want) {
        Script strung = picture.strand(beads).named(picture.name() + " strung " + beads);
        for (int what = 0; what < want.length; what++) {
            EDGES.answers(strung, want[what], "mistake", what);
        }
    }

    // ---- promise 17

    /** string: COLOURS 0 to 5. "BAD". */
    private static void coloursToString() {
        for (int colour = 0; colour <= 5; colour++) {
            EDGES.answers(Edges.SOME, 6, "string", colour);
        }
        EDGES.refusedEach(Edges.SOME, BAD, "string", MIN, -1, 6, MAX);
    }

    /** "FULL: as many as THE PICTURE has." */
    private static void asManyAsThePicture() {
        Script four = of("row ab;row cd;");
        EDGES.answers(four, 1, "string", 5);
        EDGES.answers(four.strand("fff"), 4, "string", 5);
        EDGES.refusedEach(four.strand("ffff"), FULL, "string", 0, 2, 5);
        EDGES.refusedEach(Edges.FULL_PICTURE, FULL, "string", 0, 5);
        EDGES.answers(Edges.FULL_PICTURE.then("off", 1), 192, "string", 5);
        EDGES.refusedEach(Edges.ONE_BEAD, FULL, "string", 0, 5);
        EDGES.answers(Edges.ONE_BEAD.then("off", 1), 1, "string", 0);
    }

    /** BAD, FULL: "the first that fits". */
    private static void badAheadOfFull() {
        EDGES.refusedEach(Edges.FULL_PICTURE, BAD, "string", MIN, -1, 6, MAX);
        EDGES.refusedEach(Edges.ONE_BEAD, BAD, "string", MIN, -1, 6, MAX);
    }

    /** The same of an empty PICTURE. */
    private static void fullOfNothing() {
        EDGES.refusedEach(Edges.NEW, FULL, "string", 0, 5);
        EDGES.refusedEach(Edges.NEW, BAD, "string", MIN, -1, 6, MAX);
        EDGES.refused(of("row a;").then("change", 0, 2), FULL, "string", 0);
    }

    /** It is THE PICTURE as it is now that bounds THE THREAD. */
    private static void fullAsThePictureGrows() {
        Script grown = of("row ab;").strand("ab").slip(0, 0).then("add");
        EDGES.answers(grown, 3, "string", 0);
        EDGES.answers(grown.strand("a"), 4, "string", 0);
        EDGES.refused(grown.strand("aa"), FULL, "string", 0);
        // As the image was: no room for more than that had.
        Script back = of("row ab;").strand("ab").then("keep", 0).slip(0, 0).then("add").then("back", 0);
        EDGES.refused(back, FULL, "string", 0);
    }

    // ---- promise 18

    /** "n BEADS are taken off THE THREAD: how many are left." */
    private static void offFromNoneToAll() {
        EDGES.changesNothing(Edges.SOME, 5, "off", 0);
        EDGES.changesNothing(Edges.NEW, 0, "off", 0);
        for (int n = 0; n <= 5; n++) {
            EDGES.answers(Edges.SOME, 5 - n, "off", n);
            EDGES.answers(Edges.SOME.then("off", n), 5 - n, "rule", 8);
        }
        EDGES.answers(Edges.FULL_PICTURE, 0, "off", 192);
        EDGES.answers(Edges.FULL_PICTURE, 191, "off", 1);
    }

    /** "BAD: also more than there are." */
    private static void offMoreThanThereAre() {
        EDGES.refusedEach(Edges.SOME, BAD, "off", MIN, -1, 6, 192, MAX);
        EDGES.refusedEach(Edges.NEW, BAD, "off", MIN, -1, 1, MAX);
        EDGES.refusedEach(Edges.FULL_PICTURE, BAD, "off", MIN, -1, 193, MAX);
        EDGES.refusedEach(Edges.SOME.then("off", 5), BAD, "off", 1, 5);
    }

    /** "(those STRUNG the latest)". */
    private static void offTheLatest() {
        Script strung = of("row abcdef;").strand("abcf");
        EDGES.answers(strung, 3, "mistake", 0);
        EDGES.answers(strung.then("off", 1), NONE, "mistake", 0);
        EDGES.answers(strung.then("off", 1).strand("d"), NONE, "mistake", 0);
        EDGES.answers(strung.then("off", 3).strand("f"), 1, "mistake", 0);
    }

    // ---- promise 19

    /** plan: "BAD: i below 0; NONE: there are not so many." */
    private static void planThereIs() {
        EDGES.changesNothing(Edges.SOME, 0, "plan", 0);
        EDGES.changesNothing(Edges.SOME, 0, "plan", 11);
        EDGES.changesNothing(Edges.SOME, 2, "plan", 7);
        EDGES.refusedEach(Edges.SOME, BAD, "plan", MIN, NONE, -1);
        EDGES.refusedEach(Edges.SOME, NONE, "plan", 12, 13, 191, 192, MAX);
        EDGES.refusedEach(Edges.FULL_PICTURE, NONE, "plan", 192, 193, MAX);
        EDGES.answers(Edges.NEW.then("draw", 0, 12, 16, 1), 0, "plan", 191);
        EDGES.answers(Edges.ONE_BEAD, 5, "plan", 0);
        EDGES.refused(Edges.ONE_BEAD, NONE, "plan", 1);
    }

    /** The same of an empty PICTURE. */
    private static void planOfNothing() {
        EDGES.refusedEach(Edges.NEW, BAD, "plan", MIN, -1);
        EDGES.refusedEach(Edges.NEW, NONE, "plan", 0, 1, MAX);
        EDGES.refused(of("row a;").then("change", 0, 2), NONE, "plan", 0);
    }

    /** "those of LINES of all ROWS, one behind another". */
    private static void planToAndFro() {
        CHECK.plan(of("row abc;row def;row fed;").made(), "abcdeffed");
        CHECK.plan(of("fro;row abc;row def;row fed;").made(), "abcfedfed");
        CHECK.plan(of("row a;row b;").made(), "ab");
        CHECK.plan(of("row abcdefabcdefabcd;").made(), "abcdefabcdefabcd");
    }

    // ---- promise 20

    /** mistake: what there is to ask, 0 to 6. "BAD". */
    private static void whatOfAMistake() {
        // Strung aabbb beside aabcaabcabba.
        int[] want = {3, 0, 3, 2, WRONG, 0, 2};
        for (int what = 0; what <= 6; what++) {
            EDGES.changesNothing(Edges.SOME, want[what], "mistake", what);
        }
        EDGES.refusedEach(Edges.SOME, BAD, "mistake", MIN, -1, 7, MAX);
    }

    /** "NONE: there is none." */
    private static void noMistake() {
        Script[] right = {Edges.NEW, Edges.ONE_BEAD, of("row ab;"), of("row ab;").strand("a"), of("row ab;").strand("ab")};
        for (Script none : right) {
            for (int what = 0; what <= 6; what++) {
                EDGES.refused(none, NONE, "mistake", what);
            }
        }
    }

    /** BAD, NONE: "the first that fits". */
    private static void badAheadOfNone() {
        EDGES.refusedEach(Edges.NEW, BAD, "mistake", MIN, -1, 7, MAX);
        EDGES.refusedEach(Edges.ONE_BEAD, BAD, "mistake", MIN, -1, 7, MAX);
    }

    /** "The FIRST that is not as PLAN is the MISTAKE, at i": at the first and at the last bead. */
    private static void theFirstAndTheLastBead() {
        mistake(of("row f;"), "a", 0, 0, 0, 5, WRONG, 0, 1);
        mistake(of("row abcd;"), "f", 0, 0, 0, 0, WRONG, 0, 1);
        mistake(of("row abcd;"), "abcf", 3, 0, 3, 3, WRONG, 0, 1);
        mistake(of("row abcd;row efab;"), "abcdefaf", 7, 1, 3, 1, WRONG, 0, 1);
        BeadWords x = Edges.NEW.then("draw", 0, 12, 16, 1).made();
        for (int i = 0; i < 191; i++) {
            x.string(0);
        }
        EDGES.due("mistake(0) of 191", x.mistake(0), NONE);
        x.string(1);
        CHECK.mistake(x, 191, 11, 15, 0, WRONG, 0, 1);
    }

    /** The same: of two that are not, the first. */
    private static void theFirstThatIsNot() {
        mistake(of("row aaaaaa;"), "abab", 1, 0, 1, 0, WRONG, 1, 3);
        mistake(of("row aaaaaa;"), "bbbb", 0, 0, 0, 0, WRONG, 0, 4);
    }

    /** "1 its ROW, 2 which it is as that is READ": at the ends of ROWS. */
    private static void itsRowAndWhichItIs() {
        Script rows = of("fro;row abc;row def;row abc;");
        mistake(rows, "abe", 2, 0, 2, 2, WRONG, 0, 1);
        mistake(rows, "abca", 3, 1, 0, 5, WRONG, 0, 1);
        mistake(rows, "abcfeb", 5, 1, 2, 3, WRONG, 0, 1);
        mistake(rows, "abcfedf", 6, 2, 0, 0, WRONG, 0, 1);
        Script ones = of("row a;row b;row c;");
        mistake(ones, "abf", 2, 2, 0, 2, WRONG, 0, 1);
        mistake(ones, "af", 1, 1, 0, 1, WRONG, 0, 1);
    }

    /** "0 WRONG: of numbers j above i those that are PLAN j". */
    private static void wrongAboveTheMistake() {
        mistake(of("row abcdef;"), "abfdef", 2, 0, 2, 2, WRONG, 3, 4);
        mistake(of("row abcdef;"), "abf", 2, 0, 2, 2, WRONG, 0, 1);
        mistake(of("row abcdef;"), "abfd", 2, 0, 2, 2, WRONG, 1, 2);
        mistake(of("row abcdef;"), "fbcdef", 0, 0, 0, 0, WRONG, 5, 6);
        mistake(of("row abcdef;"), "abfdea", 2, 0, 2, 2, WRONG, 2, 4);
    }

    /** "1 LEFT OUT: of j from i on those that are PLAN j and 1". */
    private static void leftOutFromTheMistakeOn() {
        mistake(of("row abcdef;"), "b", 0, 0, 0, 0, LEFT_OUT, 1, 1);
        mistake(of("row abcdef;"), "abd", 2, 0, 2, 2, LEFT_OUT, 1, 1);
        mistake(of("row abcdef;"), "abdef", 2, 0, 2, 2, LEFT_OUT, 3, 3);
        mistake(of("row abcdef;"), "abdec", 2, 0, 2, 2, LEFT_OUT, 2, 3);
        // The one left out is the first of a row.
        mistake(of("row abc;row def;"), "abcef", 3, 1, 0, 3, LEFT_OUT, 2, 2);
        mistake(of("fro;row abc;row fed;"), "abcef", 3, 1, 0, 3, LEFT_OUT, 2, 2);
    }

    /** "(where there is that)": behind the last of PLAN there is none. */
    private static void leftOutWhereThereIsThat() {
        mistake(of("row abcdef;"), "bcdefa", 0, 0, 0, 0, LEFT_OUT, 5, 6);
        mistake(of("row bcdefa;"), "bcdefb", 5, 0, 5, 0, WRONG, 0, 1);
        mistake(of("row abcdef;"), "abcdf", 4, 0, 4, 4, LEFT_OUT, 1, 1);
        mistake(of("row abcdef;"), "abcdff", 4, 0, 4, 4, WRONG, 1, 2);
        for (int colour = 1; colour <= 5; colour++) {
            Script one = of("row a;").then("string", colour);
            CHECK.mistake(one.made(), 0, 0, 0, 0, WRONG, 0, 1);
        }
        // A row more, and there is that.
        Script grown = of("row ab;").strand("aa");
        CHECK.mistake(grown.made(), 1, 0, 1, 1, WRONG, 0, 1);
        CHECK.mistake(grown.slip(0, 0).then("add").made(), 1, 0, 1, 1, LEFT_OUT, 1, 1);
    }

    /** "2 DOUBLED: of j above i those that are PLAN j less 1". */
    private static void doubledAboveTheMistake() {
        mistake(of("row abcdef;"), "fa", 0, 0, 0, 0, DOUBLED, 1, 2);
        mistake(of("row abcdef;"), "aab", 1, 0, 1, 1, DOUBLED, 1, 2);
        mistake(of("row abcdef;"), "abbcde", 2, 0, 2, 2, DOUBLED, 3, 4);
        mistake(of("row abcdef;"), "aabcde", 1, 0, 1, 1, DOUBLED, 4, 5);
        // The mistake itself, the bead ahead once more, does not count.
        mistake(of("row abcdef;"), "aa", 1, 0, 1, 1, WRONG, 0, 1);
        mistake(of("row abc;row def;"), "abccde", 3, 1, 0, 3, DOUBLED, 2, 3);
    }

    /** "Its KIND is that with the most, of like ones the least." */
    private static void likeKindsTheLeast() {
        // Of no beads each.
        mistake(of("row abcd;"), "f", 0, 0, 0, 0, WRONG, 0, 1);
        // Wrong 1, left out 1, doubled 0.
        mistake(of("row aba;"), "aaa", 1, 0, 1, 1, WRONG, 1, 2);
        // Wrong 1, left out 0, doubled 1.
        mistake(of("row abbc;"), "acb", 1, 0, 1, 1, WRONG, 1, 2);
        // Wrong 0, left out 2, doubled 2.
        mistake(of("row abab;"), "aaba", 1, 0, 1, 1, LEFT_OUT, 2, 3);
        // Wrong 0, left out 2, doubled 1; wrong 0, left out 1, doubled 3.
        mistake(of("row abab;"), "aab", 1, 0, 1, 1, LEFT_OUT, 2, 2);
        mistake(of("row abcde;"), "acbcd", 1, 0, 1, 1, DOUBLED, 3, 4);
    }

    /** "6 how many to take off so that none is": no fewer, no more. */
    private static void offSoThatNoneIs() {
        Script strung = of("row abcdef;").strand("abfdef");
        EDGES.answers(strung, 4, "mistake", 6);
        EDGES.answers(strung.then("off", 3), 2, "mistake", 0);
        EDGES.answers(strung.then("off", 3), 1, "mistake", 6);
        EDGES.answers(strung.then("off", 4), NONE, "mistake", 0);
        EDGES.answers(strung.then("off", 4), 2, "rule", 8);
        Script all = of("row ab;").strand("ba");
        EDGES.answers(all, 2, "mistake", 6);
        EDGES.answers(all.then("off", 2), NONE, "mistake", 6);
    }
}
