import java.util.Arrays;

/** Boundaries of promises 12 to 16 (tell, tear, spoken, said, add) and of what is SPOKEN; each test is of one sentence. */
public final class SlipEdgesTest {
    private static final Edges EDGES = new Edges();
    private static final Check CHECK = EDGES.check();
    private static final int BAD = Edges.BAD, STATE = Edges.STATE, FULL = Edges.FULL, NONE = Edges.NONE;
    private static final int MIN = Edges.MIN, MAX = Edges.MAX;
    private static final int AS = 0, TURNED = 1, MIRROR = 2, TIMES = 3, PLAIN = 4;

    public static void main(String[] args) {
        aWordIs0To99();
        fortyWords();
        badAheadOfFull();
        tearing();
        nothingBesideForms();
        anyRowOfThePicture();
        turnedFromItsEnd();
        mirrorOfTwoOrMore();
        mirrorOfWHalvedUp();
        mirrorOfOddAndEven();
        timesTwoTo16();
        timesWInAll();
        plainOfWBeads();
        oneRunOrMore();
        oneTo16BeadsEach();
        coloursOfRuns();
        runsOfOneColour();
        anEmptyPicture();
        anEmptyPictureOf1To16();
        aPictureThatIsEmptyAgain();
        spokenByThePictureThereIs();
        saidOfNothing();
        saidOfSome();
        addNothing();
        addToTwelve();
        stateAheadOfFull();
        addedAndLeft();
        addedAsALine();
        EDGES.end();
    }

    private static Script of(String letters) {
        return new Script(letters).text(letters);
    }

    /** That the words speak a line, and that one word less or more speaks nothing ("just a FORM and behind it, to its end"). */
    private static void spoken(Script picture, String want, int... words) {
        CHECK.spoken(picture.slip(words).made(), want);
        EDGES.answers(picture.slip(words), want.length(), "spoken");
        silent(picture, Arrays.copyOf(words, words.length - 1));
        for (int more = 0; more <= 6; more++) {
            int[] longer = Arrays.copyOf(words, words.length + 1);
            longer[words.length] = more;
            silent(picture, longer);
        }
    }

    private static void silent(Script picture, int... words) {
        Script told = picture.slip(words);
        String what = picture.name() + " told " + Arrays.toString(words) + ": ";
        BeadWords x = told.made();
        CHECK.due(what + "spoken()", x.spoken(), NONE);
        CHECK.due(what + "said(0)", x.said(0), NONE);
        CHECK.due(what + "add()", x.add(), STATE);
        CHECK.due(what + "rule(9)", x.rule(9), words.length);
    }

    // ---- promises 12, 13

    /** "A WORD (0 to 99) comes to THE SLIP: how many it has. BAD". */
    private static void aWordIs0To99() {
        EDGES.answers(Edges.NEW, 1, "tell", 0);
        EDGES.answers(Edges.NEW, 1, "tell", 99);
        EDGES.answers(Edges.SOME, 6, "tell", 99);
        EDGES.refusedEach(Edges.NEW, BAD, "tell", MIN, -1, 100, MAX);
        EDGES.refusedEach(Edges.SOME, BAD, "tell", MIN, -1, 100, MAX);
    }

    /** "FULL: 40." */
    private static void fortyWords() {
        BeadWords x = new BeadWords();
        for (int i = 1; i <= 40; i++) {
            CHECK.due("tell " + i, x.tell(i), i);
        }
        EDGES.refusedEach(Edges.FULL_SLIP, FULL, "tell", 0, 1, 50, 99);
    }

    /** BAD, FULL: "the first that fits". */
    private static void badAheadOfFull() {
        EDGES.refusedEach(Edges.FULL_SLIP, BAD, "tell", MIN, -1, 100, MAX);
    }

    /** "THE SLIP is empty: how many it had." */
    private static void tearing() {
        EDGES.changesNothing(Edges.NEW, 0, "tear");
        EDGES.answers(Edges.SOME, 5, "tear");
        EDGES.answers(Edges.FULL_SLIP, 40, "tear");
        EDGES.answers(Edges.FULL_SLIP.then("tear"), 0, "tear");
        EDGES.answers(Edges.FULL_SLIP.then("tear"), 0, "rule", 9);
        EDGES.answers(Edges.FULL_SLIP.then("tear"), 1, "tell", 0);
        // The words told next are the first ones.
        spoken(Edges.FULL_SLIP, "ba", TURNED, 0);
        EDGES.answers(Edges.FULL_PICTURE.then("tear"), NONE, "spoken");
    }

    // ---- promise 14: the forms

    /** "if it is just a FORM": 0 to 4. */
    private static void nothingBesideForms() {
        Script two = of("row ab;row cd;");
        silent(two);
        for (int form = 0; form <= 99; form++) {
            silent(two, form);
            if (form > PLAIN) {
                silent(two, form, 0);
                silent(two, form, 2, 0);
                silent(two, form, 1, 0, 1, 1);
                silent(Edges.NEW, form, 2, 0);
            }
        }
        // Forty words tell no row, be they runs of one bead each.
        EDGES.refused(Edges.FULL_SLIP, NONE, "spoken");
        int[] runs = new int[40];
        Arrays.fill(runs, 1);
        runs[0] = TIMES;
        runs[1] = 2;
        silent(Edges.NEW, runs);
        silent(of("row aaaaaaaaaaaaaaaa;"), runs);
        int[] plain = Arrays.copyOf(runs, 39);
        plain[0] = PLAIN;
        plain[1] = 1;
        silent(Edges.NEW, plain);
    }

    /** "by AS, TURNED: k, any ROW of THE PICTURE". */
    private static void anyRowOfThePicture() {
        Script three = of("row ab;row cd;row ef;");
        String[] lines = {"ab", "cd", "ef"};
        for (int k = 0; k < 3; k++) {
            spoken(three, lines[k], AS, k);
        }
        for (int form = AS; form <= TURNED; form++) {
            for (int k : new int[] {3, 11, 12, 16, 99}) {
                silent(three, form, k);
            }
            silent(Edges.FULL_PICTURE, form, 12);
            EDGES.answers(Edges.FULL_PICTURE.slip(form, 11), 16, "spoken");
            EDGES.answers(Edges.FULL_PICTURE.slip(form, 0), 16, "spoken");
            EDGES.answers(Edges.ONE_BEAD.slip(form, 0), 1, "spoken");
            silent(Edges.ONE_BEAD, form, 1);
            silent(Edges.NEW, form, 0);
        }
    }

    /** "its LINE, that from its end". */
    private static void turnedFromItsEnd() {
        Script rows = of("fro;row abc;row abd;");
        spoken(rows, "abc", AS, 0);
        spoken(rows, "dba", AS, 1);
        spoken(rows, "cba", TURNED, 0);
        spoken(rows, "abd", TURNED, 1);
        spoken(Edges.ONE_BEAD, "f", AS, 0);
        spoken(Edges.ONE_BEAD, "f", TURNED, 0);
        spoken(of("row abcdefabcdefabcd;"), "dcbafedcbafedcba", TURNED, 0);
    }

    /** "by MIRROR (W 2 or more)". */
    private static void mirrorOfTwoOrMore() {
        silent(Edges.ONE_BEAD, MIRROR, 1, 0);
        silent(Edges.ONE_BEAD, MIRROR, 1, 5);
        spoken(of("row ab;"), "ff", MIRROR, 1, 5);
        spoken(of("row abc;"), "fff", MIRROR, 2, 5);
        silent(Edges.NEW, MIRROR, 1, 5);
        silent(Edges.NEW, MIRROR, 16, 5);
    }

    /** "RUNS of W halved (up) BEADS". */
    private static void mirrorOfWHalvedUp() {
        for (int w = 2; w <= 16; w++) {
            Script picture = of("row " + "a".repeat(w) + ";");
            int half = w % 2 == 0 ? w / 2 : w / 2 + 1;
            for (int beads = 1; beads <= 16; beads++) {
                if (beads == half) {
                    spoken(picture, "c".repeat(w), MIRROR, beads, 2);
                } else {
                    silent(picture, MIRROR, beads, 2);
                }
            }
        }
    }

    /** "these, then from their end (of odd W from the one ahead of their last) those that lack to W". */
    private static void mirrorOfOddAndEven() {
        spoken(of("row aaaa;"), "bccb", MIRROR, 1, 1, 1, 2);
        spoken(of("row aaaaa;"), "bcdcb", MIRROR, 1, 1, 1, 2, 1, 3);
        spoken(of("row aaaaa;"), "bbdbb", MIRROR, 2, 1, 1, 3);
        spoken(of("row aaaaaa;"), "bbddbb", MIRROR, 2, 1, 1, 3);
        spoken(of("row aaa;"), "bcb", MIRROR, 1, 1, 1, 2);
        spoken(of("row aaaaaaaaaaaaaaa;"), "abcdefabafedcba", MIRROR, 1, 0, 1, 1, 1, 2, 1, 3, 1, 4, 1, 5, 1, 0, 1, 1);
        spoken(of("row aaaaaaaaaaaaaaaa;"), "abcdefabbafedcba", MIRROR, 1, 0, 1, 1, 1, 2, 1, 3, 1, 4, 1, 5, 1, 0, 1, 1);
    }

    /** "by TIMES: n (2 to 16) and RUNS". */
    private static void timesTwoTo16() {
        Script sixteen = of("row aaaaaaaaaaaaaaaa;");
        spoken(sixteen, "c".repeat(16), TIMES, 2, 8, 2);
        spoken(sixteen, "c".repeat(16), TIMES, 4, 4, 2);
        spoken(sixteen, "c".repeat(16), TIMES, 8, 2, 2);
        spoken(sixteen, "c".repeat(16), TIMES, 16, 1, 2);
        silent(sixteen, TIMES, 1, 16, 2);
        silent(sixteen, TIMES, 0, 16, 2);
        silent(sixteen, TIMES, 17, 1, 2);
        silent(sixteen, TIMES, 99, 1, 2);
        spoken(of("row ab;"), "cc", TIMES, 2, 1, 2);
        silent(of("row ab;"), TIMES, 1, 2, 2);
        silent(Edges.ONE_BEAD, TIMES, 1, 1, 2);
        silent(Edges.ONE_BEAD, TIMES, 2, 1, 2);
    }

    /** "n times all their BEADS, W in all". */
    private static void timesWInAll() {
        Script six = of("row aaaaaa;");
        for (int n = 0; n <= 17; n++) {
            for (int beads = 1; beads <= 16; beads++) {
                if (n >= 2 && n * beads == 6) {
                    spoken(six, "f".repeat(6), TIMES, n, beads, 5);
                } else {
                    silent(six, TIMES, n, beads, 5);
                }
            }
        }
        spoken(six, "abcabc", TIMES, 2, 1, 0, 1, 1, 1, 2);
        spoken(six, "aabaab", TIMES, 2, 2, 0, 1, 1);
        spoken(six, "ababab", TIMES, 3, 1, 0, 1, 1);
        silent(six, TIMES, 4, 1, 0, 1, 1);
        // A part need not be the shortest.
        spoken(six, "aaaaaa", TIMES, 2, 3, 0);
    }

    /** "by PLAIN: RUNS of W BEADS". */
    private static void plainOfWBeads() {
        for (int w = 1; w <= 16; w++) {
            Script picture = of("row " + "a".repeat(w) + ";");
            for (int beads = 1; beads <= 17; beads++) {
                if (beads == w) {
                    spoken(picture, "f".repeat(w), PLAIN, w, 5);
                } else {
                    silent(picture, PLAIN, beads, 5);
                }
            }
        }
        spoken(of("row aaaa;"), "abbc", PLAIN, 1, 0, 2, 1, 1, 2);
        silent(of("row aaaa;"), PLAIN, 1, 0, 2, 1);
        silent(of("row aaaa;"), PLAIN, 1, 0, 2, 1, 2, 2);
    }

    // ---- promise 14: runs

    /** "RUNS: one or more". */
    private static void oneRunOrMore() {
        Script two = of("row ab;");
        silent(two, PLAIN);
        silent(two, MIRROR);
        silent(two, TIMES);
        silent(two, TIMES, 2);
        silent(Edges.NEW, PLAIN);
        silent(Edges.NEW, TIMES, 2);
        spoken(of("row abcdefabcdefabcd;"), "abcdefabcdefabcd", PLAIN, 1, 0, 1, 1, 1, 2, 1, 3, 1, 4, 1, 5, 1, 0, 1, 1, 1, 2,
            1, 3, 1, 4, 1, 5, 1, 0, 1, 1, 1, 2, 1, 3);
    }

    /** "of 1 to 16 BEADS": a run of none is none, at the end or between. */
    private static void oneTo16BeadsEach() {
        Script two = of("row ab;");
        silent(two, PLAIN, 0, 0);
        silent(two, PLAIN, 2, 0, 0, 0);
        silent(two, PLAIN, 0, 0, 2, 0);
        silent(two, PLAIN, 1, 0, 0, 0, 1, 0);
        silent(two, MIRROR, 1, 0, 0, 0);
        silent(two, TIMES, 2, 1, 0, 0, 0);
        silent(two, TIMES, 2, 0, 0);
        spoken(of("row aaaaaaaaaaaaaaaa;"), "b".repeat(16), PLAIN, 16, 1);
        spoken(of("row aaaaaaaaaaaaaaaa;"), "b".repeat(15) + "a", PLAIN, 15, 1, 1, 0);
        silent(of("row aaaaaaaaaaaaaaaa;"), PLAIN, 17, 1);
        silent(of("row aaaaaaaaaaaaaaaa;"), PLAIN, 99, 1);
        silent(of("row aaaaaaaaaaaaaaaa;"), PLAIN, 16, 1, 99, 1);
        silent(of("row aaaaaaaaaaaaaaaa;"), TIMES, 16, 99, 1);
        silent(of("row aaaaaaaaaaaaaaaa;"), MIRROR, 99, 1);
    }

    /** "of a COLOUR each": 0 to 5. */
    private static void coloursOfRuns() {
        Script two = of("row ab;");
        for (int colour = 0; colour <= 99; colour++) {
            if (colour <= 5) {
                String one = "" + (char) ('a' + colour);
                spoken(two, one + one, PLAIN, 2, colour);
                spoken(two, one + one, MIRROR, 1, colour);
                spoken(two, one + one, TIMES, 2, 1, colour);
                spoken(two, "a" + one, PLAIN, 1, 0, 1, colour);
            } else {
                silent(two, PLAIN, 2, colour);
                silent(two, MIRROR, 1, colour);
                silent(two, TIMES, 2, 1, colour);
                silent(two, PLAIN, 1, 0, 1, colour);
                silent(two, PLAIN, 1, colour, 1, 0);
            }
        }
    }

    /** "(two one behind another may be of one COLOUR)". */
    private static void runsOfOneColour() {
        Script four = of("row aaaa;");
        spoken(four, "bbbb", PLAIN, 2, 1, 2, 1);
        spoken(four, "bbbb", PLAIN, 1, 1, 1, 1, 1, 1, 1, 1);
        spoken(four, "bbbb", MIRROR, 1, 1, 1, 1);
        spoken(four, "bbbb", TIMES, 2, 1, 1, 1, 1);
    }

    // ---- promise 14: of an empty picture

    /** "Of an empty PICTURE: TIMES, PLAIN alone". */
    private static void anEmptyPicture() {
        silent(Edges.NEW);
        silent(Edges.NEW, AS, 0);
        silent(Edges.NEW, TURNED, 0);
        for (int beads = 0; beads <= 17; beads++) {
            silent(Edges.NEW, MIRROR, beads, 0);
        }
        spoken(Edges.NEW, "abab", TIMES, 2, 1, 0, 1, 1);
        spoken(Edges.NEW, "aab", PLAIN, 2, 0, 1, 1);
        silent(Edges.NEW, TIMES, 1, 4, 0);
        silent(Edges.NEW, TIMES, 0, 4, 0);
        silent(Edges.NEW, TIMES, 2, 0, 0);
        silent(Edges.NEW, PLAIN, 0, 0);
    }

    /** "W being 1 to 16, as many as are told." */
    private static void anEmptyPictureOf1To16() {
        for (int w = 1; w <= 17; w++) {
            if (w <= 16) {
                spoken(Edges.NEW, "d".repeat(w), PLAIN, w, 3);
                EDGES.answers(Edges.NEW.slip(PLAIN, w, 3).then("add"), w, "rule", 1);
            } else {
                silent(Edges.NEW, PLAIN, w, 3);
            }
        }
        for (int n = 0; n <= 18; n++) {
            for (int beads = 1; beads <= 16; beads++) {
                if (n >= 2 && n * beads <= 16) {
                    spoken(Edges.NEW, "d".repeat(n * beads), TIMES, n, beads, 3);
                } else {
                    silent(Edges.NEW, TIMES, n, beads, 3);
                }
            }
        }
        spoken(Edges.NEW, "a".repeat(8) + "b".repeat(8), PLAIN, 8, 0, 8, 1);
        silent(Edges.NEW, PLAIN, 8, 0, 9, 1);
        silent(Edges.NEW, PLAIN, 16, 0, 1, 1);
    }

    /** The same when the last ROW has gone, or a text of none was taken; MODE is no ROW. */
    private static void aPictureThatIsEmptyAgain() {
        Script[] emptied = {of("row abc;").then("change", 0, 2), of("row abc;").text(""), of("fro;")};
        for (Script none : emptied) {
            silent(none, AS, 0);
            silent(none, TURNED, 0);
            silent(none, MIRROR, 2, 0);
            spoken(none, "aaaaa", PLAIN, 5, 0);
            spoken(none, "aaaa", TIMES, 2, 2, 0);
            EDGES.answers(none.slip(PLAIN, 5, 0), 1, "add");
        }
    }

    /** What is SPOKEN is so of THE PICTURE that there is: one slip, other pictures. */
    private static void spokenByThePictureThereIs() {
        Script told = of("row ab;").slip(PLAIN, 3, 0);
        EDGES.answers(told, NONE, "spoken");
        EDGES.answers(told.text("row abc;"), 3, "spoken");
        EDGES.answers(told.then("change", 0, 2), 3, "spoken");
        Script as = of("row ab;row cd;").slip(AS, 1);
        EDGES.answers(as, 2, "said", 0);
        EDGES.answers(as.then("mode", 1), 3, "said", 0);
        EDGES.answers(as.then("swap", 0, 1), 0, "said", 0);
        EDGES.answers(as.then("paint", 1, 0, 5), 5, "said", 0);
        EDGES.answers(as.then("change", 0, 2), NONE, "said", 0);
    }

    // ---- promise 15

    /** "BAD: i below 0; NONE: nothing is". */
    private static void saidOfNothing() {
        EDGES.refusedEach(Edges.NEW, BAD, "said", MIN, NONE, -1);
        EDGES.refusedEach(Edges.NEW, NONE, "said", 0, 1, 15, 16, MAX);
        EDGES.refusedEach(Edges.SOME, BAD, "said", MIN, NONE, -1);
        EDGES.refusedEach(Edges.SOME, NONE, "said", 0, 3, MAX);
        EDGES.refusedEach(Edges.FULL_SLIP, BAD, "said", MIN, -1);
        EDGES.refusedEach(Edges.FULL_SLIP, NONE, "said", 0, MAX);
    }

    /** "there are not so many". */
    private static void saidOfSome() {
        Script told = Edges.SOME.slip(PLAIN, 3, 0, 1, 5);
        EDGES.changesNothing(told, 4, "spoken");
        EDGES.changesNothing(told, 0, "said", 0);
        EDGES.changesNothing(told, 5, "said", 3);
        EDGES.refusedEach(told, NONE, "said", 4, 5, 15, 16, MAX);
        EDGES.refusedEach(told, BAD, "said", MIN, NONE, -1);
        EDGES.refusedEach(Edges.FULL_PICTURE, NONE, "said", 16, 17, MAX);
        EDGES.answers(Edges.ONE_BEAD.slip(AS, 0), 5, "said", 0);
        EDGES.answers(Edges.ONE_BEAD.slip(AS, 0), NONE, "said", 1);
    }

    // ---- promise 16

    /** "STATE: nothing is". */
    private static void addNothing() {
        EDGES.refused(Edges.NEW, STATE, "add");
        EDGES.refused(Edges.SOME, STATE, "add");
        EDGES.refused(Edges.FULL_SLIP, STATE, "add");
        EDGES.refused(Edges.SOME.then("tear"), STATE, "add");
    }

    /** "FULL: 12." */
    private static void addToTwelve() {
        Script eleven = Edges.FULL_PICTURE.then("change", 3, 2);
        EDGES.answers(eleven.slip(AS, 10), 12, "add");
        EDGES.refused(Edges.FULL_PICTURE, FULL, "add");
        EDGES.refused(Edges.FULL_PICTURE.slip(PLAIN, 16, 0), FULL, "add");
        Script one = Edges.NEW.slip(PLAIN, 1, 5).then("add");
        for (int rows = 2; rows <= 12; rows++) {
            one = one.slip(AS, 0);
            EDGES.answers(one, rows, "add");
            one = one.then("add");
        }
        EDGES.refused(one.slip(AS, 0), FULL, "add");
    }

    /** STATE, FULL: "the first that fits". */
    private static void stateAheadOfFull() {
        EDGES.refused(Edges.FULL_PICTURE.then("tear"), STATE, "add");
        EDGES.refused(Edges.FULL_PICTURE.slip(AS, 12), STATE, "add");
        EDGES.refused(Edges.FULL_PICTURE.slip(PLAIN, 15, 0), STATE, "add");
    }

    /** "(THE SLIP is empty then, THE THREAD stays): ROWS." */
    private static void addedAndLeft() {
        Script added = Edges.SOME.slip(PLAIN, 4, 0);
        EDGES.answers(added, 4, "add");
        added = added.then("add");
        EDGES.answers(added, 0, "rule", 9);
        EDGES.answers(added, 5, "rule", 8);
        EDGES.answers(added, 3, "mistake", 0);
        EDGES.answers(added, 1, "count", 0);
        EDGES.answers(added, 9, "count", 1);
        EDGES.answers(added, 1, "rule", 2);
        EDGES.refused(added, STATE, "add");
        // A thread that was full has room for the row more.
        Script full = Edges.ONE_BEAD.slip(PLAIN, 1, 0);
        EDGES.refused(full, FULL, "string", 0);
        EDGES.answers(full.then("add"), 2, "string", 0);
    }

    /** "becomes the LINE of a ROW more, the last one": of odd number by MODE 1 from the right. */
    private static void addedAsALine() {
        Script first = Edges.NEW.then("mode", 1).slip(PLAIN, 1, 0, 2, 1).then("add");
        CHECK.beads(first.made(), 0, "abb");
        Script second = first.slip(PLAIN, 1, 2, 2, 3).then("add");
        CHECK.beads(second.made(), 1, "ddc");
        CHECK.plan(second.made(), "abbcdd");
        Script third = second.slip(TURNED, 1).then("add");
        CHECK.beads(third.made(), 2, "ddc");
        CHECK.beads(third.then("mode", 0).slip(AS, 0).then("add").made(), 3, "abb");
    }
}
