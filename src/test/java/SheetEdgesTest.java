/** Boundaries of promises 27 to 33 (keep, back, sheet, lay, run, torn, count) and of SHEETS; each test is of one sentence. */
public final class SheetEdgesTest {
    private static final Edges EDGES = new Edges();
    private static final Check CHECK = EDGES.check();
    private static final int BAD = Edges.BAD, STATE = Edges.STATE, FULL = Edges.FULL, NONE = Edges.NONE;
    private static final int MIN = Edges.MIN, MAX = Edges.MAX;
    private static final int NULL = 1, CAST = 2, INDEX = 3;

    public static void main(String[] args) {
        imagesThereAre();
        whetherThereWasOne();
        imageOfPictureAndThread();
        imageOfNothing();
        imageOfAFullPicture();
        anImageStaysAsItWas();
        backToImagesThereAre();
        backToNoImage();
        whatStaysByBack();
        sheetsAndLanesThereAre();
        zeroTo32Cells();
        sizeBelow0();
        badAheadOfSize();
        aNewRowOfCells0();
        layInSheetsThereAre();
        layInNothing();
        layInCellsThereAre();
        lowestBitsWithASign();
        runNumbersThatAreBad();
        runOfNoneTo32();
        runFaultNull();
        runFaultCast();
        runFaultIndex();
        theFirstOfTheFaults();
        byAFaultNoMore();
        byWhatStringRefuses();
        theCellIsTakenFirst();
        noFaultOfNone();
        tornOfTheLatestNotBad();
        countsThereAre();
        countImages();
        countBytes();
        countCells();
        EDGES.end();
    }

    private static Script of(String letters) {
        return new Script(letters).text(letters);
    }

    /** What a run answers, and what torn() tells then. */
    private static void runs(Script state, int strung, int torn, int... given) {
        EDGES.answers(state, strung, "run", given);
        EDGES.answers(state.then("run", given), torn, "torn");
    }

    // ---- promises 27, 28

    /** keep: "IMAGE k (0, 1) .. BAD." */
    private static void imagesThereAre() {
        EDGES.refusedEach(Edges.NEW, BAD, "keep", MIN, -1, 2, MAX);
        EDGES.refusedEach(Edges.SOME, BAD, "keep", MIN, -1, 2, MAX);
        EDGES.answers(Edges.NEW, 0, "keep", 0);
        EDGES.answers(Edges.NEW, 0, "keep", 1);
    }

    /** "whether there was one (1, 0)": of each IMAGE for itself. */
    private static void whetherThereWasOne() {
        EDGES.answers(Edges.SOME, 1, "keep", 0);
        EDGES.answers(Edges.SOME, 0, "keep", 1);
        EDGES.answers(Edges.NEW.then("keep", 1), 0, "keep", 0);
        EDGES.answers(Edges.NEW.then("keep", 1), 1, "keep", 1);
        // An image that was told again is there still; behind a text there is none.
        EDGES.answers(Edges.SOME.then("back", 0), 1, "keep", 0);
        EDGES.answers(Edges.SOME.text("row a;"), 0, "keep", 0);
        EDGES.answers(Edges.SOME.text("row a2;"), 1, "keep", 0);
    }

    /** "IMAGE k is THE PICTURE, THE THREAD": with MODE and each bead. */
    private static void imageOfPictureAndThread() {
        Script kept = Edges.SOME.then("keep", 1);
        Script other = kept.then("mode", 0).then("draw", 5, 12, 16, 6).strand("bcd");
        EDGES.answers(other, 3, "back", 1);
        EDGES.same("back(1)", kept, other.then("back", 1));
    }

    /** The same of an empty PICTURE. */
    private static void imageOfNothing() {
        Script kept = Edges.NEW.then("keep", 0);
        EDGES.answers(kept, 1, "count", 0);
        Script other = kept.then("mode", 1).then("draw", 5, 12, 16, 6).strand("bcd");
        EDGES.answers(other, 0, "back", 0);
        EDGES.same("back(0) to nothing", kept, other.then("back", 0));
        EDGES.refused(other.then("back", 0), FULL, "string", 0);
    }

    /** The same of a full one. */
    private static void imageOfAFullPicture() {
        Script other = Edges.FULL_PICTURE.then("draw", 0, 1, 1, 1).then("mode", 1).strand("a");
        EDGES.answers(other, 12, "back", 0);
        EDGES.same("back(0) to 12 rows", Edges.FULL_PICTURE, other.then("back", 0));
        EDGES.answers(other.then("back", 0), 192, "rule", 8);
        EDGES.answers(other.then("back", 1), 0, "rule", 8);
    }

    /** What is done to THE PICTURE leaves the IMAGE, ahead of back() and behind it. */
    private static void anImageStaysAsItWas() {
        Script kept = Edges.SOME.then("keep", 0);
        Script touched = kept.then("paint", 0, 0, 5).strand("f").then("back", 0).then("off", 2).strand("e")
            .then("paint", 2, 3, 4).then("change", 0, 2).then("back", 0);
        EDGES.same("back(0) twice", kept, touched);
        // And one image leaves the other.
        Script two = Edges.SOME.then("paint", 0, 0, 5).then("keep", 1);
        EDGES.answers(two.then("back", 0), 0, "bead", 0, 0);
        EDGES.answers(two.then("back", 1), 5, "bead", 0, 0);
        EDGES.answers(two.then("back", 0), 3, "rule", 8);
        EDGES.answers(two.then("back", 1), 0, "rule", 8);
    }

    /** back: "BAD". */
    private static void backToImagesThereAre() {
        EDGES.refusedEach(Edges.NEW, BAD, "back", MIN, -1, 2, MAX);
        EDGES.refusedEach(Edges.SOME, BAD, "back", MIN, -1, 2, MAX);
        EDGES.refusedEach(Edges.FULL_PICTURE, BAD, "back", MIN, -1, 2, MAX);
    }

    /** "STATE: there is none." */
    private static void backToNoImage() {
        EDGES.refusedEach(Edges.NEW, STATE, "back", 0, 1);
        EDGES.refused(Edges.SOME, STATE, "back", 1);
        EDGES.answers(Edges.SOME, 3, "back", 0);
        EDGES.refused(Edges.SOME.text(""), STATE, "back", 0);
    }

    /** "Both are as IMAGE k": no more than these. */
    private static void whatStaysByBack() {
        Script back = Edges.SOME.then("back", 0);
        EDGES.answers(back, 5, "rule", 9);
        EDGES.answers(back, 9, "count", 1);
        EDGES.answers(back, 5, "count", 2);
        EDGES.answers(back, 1, "fault");
        EDGES.answers(back, 3, "torn");
        EDGES.answers(back, 1, "count", 0);
    }

    // ---- promise 29

    /** sheet: SHEETS 0 to 3, lanes 0 to 2. "BAD". */
    private static void sheetsAndLanesThereAre() {
        for (int wrong : new int[] {MIN, -1, 4, MAX}) {
            EDGES.refused(Edges.NEW, BAD, "sheet", wrong, 0, 1);
            EDGES.refused(Edges.SOME, BAD, "sheet", wrong, 0, 1);
        }
        for (int wrong : new int[] {MIN, -1, 3, MAX}) {
            EDGES.refused(Edges.NEW, BAD, "sheet", 0, wrong, 1);
            EDGES.refused(Edges.SOME, BAD, "sheet", 0, wrong, 1);
        }
        for (int k = 0; k <= 3; k++) {
            for (int lane = 0; lane <= 2; lane++) {
                EDGES.answers(Edges.NEW, 1, "sheet", k, lane, 1);
                Script made = of("row a;").then("sheet", k, lane, 1);
                for (int other = 0; other <= 3; other++) {
                    for (int as = 0; as <= 2; as++) {
                        int torn = other != k ? NULL : as != lane ? CAST : 0;
                        runs(made, torn == 0 ? 1 : 0, torn, other, as, 0, 1);
                    }
                }
            }
        }
    }

    /** "with 0 to 32 CELLS"; "BAD: also n above 32". */
    private static void zeroTo32Cells() {
        for (int n = 0; n <= 32; n++) {
            EDGES.answers(Edges.SOME, 1, "sheet", 0, 2, n);
            EDGES.answers(Edges.SOME.then("sheet", 0, 2, n), n, "count", 2);
        }
        for (int n : new int[] {33, 64, 65536, MAX}) {
            EDGES.refused(Edges.NEW, BAD, "sheet", 0, 2, n);
            EDGES.refused(Edges.SOME, BAD, "sheet", 0, 0, n);
            EDGES.refused(Edges.SOME, BAD, "sheet", 3, 0, n);
        }
    }

    /** "-14 (SIZE): n below 0." */
    private static void sizeBelow0() {
        for (int n : new int[] {-1, -2, -32, MIN + 1, MIN}) {
            for (int lane = 0; lane <= 2; lane++) {
                EDGES.refused(Edges.NEW, -14, "sheet", 0, lane, n);
                EDGES.refused(Edges.SOME, -14, "sheet", 0, lane, n);
                EDGES.refused(Edges.SOME, -14, "sheet", 3, lane, n);
            }
        }
        EDGES.answers(Edges.NEW, 1, "sheet", 0, 0, 0);
    }

    /** BAD, -14: "the first that fits". */
    private static void badAheadOfSize() {
        for (int n : new int[] {-1, MIN}) {
            EDGES.refused(Edges.SOME, BAD, "sheet", -1, 0, n);
            EDGES.refused(Edges.SOME, BAD, "sheet", 4, 0, n);
            EDGES.refused(Edges.SOME, BAD, "sheet", 0, -1, n);
            EDGES.refused(Edges.SOME, BAD, "sheet", 0, 3, n);
        }
    }

    /** "A SHEET is a new row of CELLS 0": also where cells were laid. */
    private static void aNewRowOfCells0() {
        Script laid = of("row aaaaaaaaaaaaaaaa;row aaaaaaaaaaaaaaaa;").then("sheet", 1, 1, 32);
        for (int i = 0; i < 32; i++) {
            laid = laid.then("lay", 1, i, 9);
        }
        runs(laid, 0, 0, 1, 1, 0, 32);
        for (int lane = 0; lane <= 2; lane++) {
            Script anew = laid.then("sheet", 1, lane, 32);
            runs(anew, 32, 0, 1, lane, 0, 32);
            EDGES.answers(anew.then("run", 1, lane, 0, 32), NONE, "mistake", 0);
        }
        // Of fewer cells, and of more again.
        runs(laid.then("sheet", 1, 1, 0).then("sheet", 1, 1, 32), 32, 0, 1, 1, 0, 32);
    }

    // ---- promise 30

    /** lay: "BAD: k". */
    private static void layInSheetsThereAre() {
        for (int wrong : new int[] {MIN, -1, 4, MAX}) {
            EDGES.refused(Edges.NEW, BAD, "lay", wrong, 0, 0);
            EDGES.refused(Edges.SOME, BAD, "lay", wrong, 0, 0);
            EDGES.refused(Edges.SOME, BAD, "lay", wrong, MAX, MIN);
        }
    }

    /** "-10 less the FAULT: NULL": ahead of INDEX. */
    private static void layInNothing() {
        for (int i : new int[] {MIN, -1, 0, 31, 32, MAX}) {
            EDGES.refused(Edges.NEW, -11, "lay", 0, i, 1);
            EDGES.refused(Edges.SOME, -11, "lay", 3, i, 1);
        }
    }

    /** "-10 less the FAULT: .. INDEX." */
    private static void layInCellsThereAre() {
        for (int i : new int[] {MIN, -1, 5, 31, 32, MAX}) {
            EDGES.refused(Edges.SOME, -13, "lay", 0, i, 1);
        }
        for (int i = 0; i < 5; i++) {
            EDGES.answers(Edges.SOME, 1, "lay", 0, i, 1);
        }
        // Of no cells none is there.
        for (int i : new int[] {MIN, -1, 0, 1, MAX}) {
            EDGES.refused(Edges.SOME, -13, "lay", 2, i, 1);
        }
        EDGES.answers(Edges.FULL_PICTURE, 1, "lay", 0, 31, 1);
        EDGES.refused(Edges.FULL_PICTURE, -13, "lay", 0, 32, 1);
        // The cell that is laid, and no other, is another one then.
        for (int at = 0; at < 32; at += 31) {
            Script laid = Edges.NEW.then("draw", 0, 12, 16, 1).then("sheet", 3, 2, 32).then("lay", 3, at, 1)
                .then("run", 3, 2, 0, 32);
            EDGES.answers(laid, 32, "rule", 8);
            EDGES.answers(laid, at, "mistake", 0);
            EDGES.answers(laid, 31 - at, "mistake", 5);
        }
    }

    /** "becomes v (its lowest bits)", "all with a sign": 8, 16, 32 of them. */
    private static void lowestBitsWithASign() {
        int[] laid = {5, 6, -1, 127, 128, 255, 256, 261, 262, -251, -256, 32767, 32768, 65535, 65536, 65541, 65542, 65792,
            -65531, MIN, MIN + 5, MAX, -2147418112 + 5};
        for (int v : laid) {
            int[] cells = {(byte) v, (short) v, v};
            for (int lane = 0; lane <= 2; lane++) {
                boolean colour = cells[lane] >= 0 && cells[lane] <= 5;
                Script put = of("row a;").then("sheet", 0, lane, 1).then("lay", 0, 0, v).named(v + " by lane " + lane);
                runs(put, colour ? 1 : 0, 0, 0, lane, 0, 1);
                if (colour) {
                    Script right = put.then("paint", 0, 0, cells[lane]).then("run", 0, lane, 0, 1);
                    EDGES.answers(right, 1, "rule", 8);
                    EDGES.answers(right, NONE, "mistake", 0);
                }
            }
        }
        // Worked out by hand: 261 is 5 as a byte alone, 65541 as a short too.
        EDGES.answers(of("row f;").then("sheet", 0, 0, 1).then("lay", 0, 0, 261), 1, "run", 0, 0, 0, 1);
        EDGES.answers(of("row f;").then("sheet", 0, 1, 1).then("lay", 0, 0, 261), 0, "run", 0, 1, 0, 1);
        EDGES.answers(of("row f;").then("sheet", 0, 1, 1).then("lay", 0, 0, 65541), 1, "run", 0, 1, 0, 1);
        EDGES.answers(of("row f;").then("sheet", 0, 2, 1).then("lay", 0, 0, 65541), 0, "run", 0, 2, 0, 1);
    }

    // ---- promise 31

    /** run: "BAD: k, lane, n." */
    private static void runNumbersThatAreBad() {
        for (int wrong : new int[] {MIN, -1, 4, MAX}) {
            EDGES.refused(Edges.SOME, BAD, "run", wrong, 0, 0, 1);
            EDGES.refused(Edges.SOME, BAD, "run", wrong, 0, 0, 0);
            EDGES.refused(Edges.NEW, BAD, "run", wrong, 0, 0, 1);
        }
        for (int wrong : new int[] {MIN, -1, 3, MAX}) {
            EDGES.refused(Edges.SOME, BAD, "run", 0, wrong, 0, 1);
            EDGES.refused(Edges.SOME, BAD, "run", 3, wrong, 0, 1);
            EDGES.refused(Edges.SOME, BAD, "run", 3, wrong, 0, 0);
        }
        for (int wrong : new int[] {MIN, -1, 33, MAX}) {
            EDGES.refused(Edges.SOME, BAD, "run", 0, 0, 0, wrong);
            EDGES.refused(Edges.SOME, BAD, "run", 3, 0, 0, wrong);
        }
        // f is bad by no number: a fault of index is found.
        for (int f : new int[] {MIN, -1, 5, MAX}) {
            runs(Edges.SOME, 0, INDEX, 0, 0, f, 1);
        }
    }

    /** "n (0 to 32) CELLS of a SHEET .. from CELL f on, are STRUNG .. how many". */
    private static void runOfNoneTo32() {
        Script two = Edges.NEW.then("draw", 0, 12, 16, 1).then("sheet", 2, 1, 32);
        for (int n = 0; n <= 32; n++) {
            runs(two, n, 0, 2, 1, 0, n);
            runs(two, n, 0, 2, 1, 32 - n, n);
            EDGES.answers(two.then("run", 2, 1, 32 - n, n), n, "rule", 8);
        }
        Script laid = of("row abcdef;").then("sheet", 2, 1, 6);
        for (int i = 0; i < 6; i++) {
            laid = laid.then("lay", 2, i, i);
        }
        EDGES.answers(laid.then("run", 2, 1, 0, 6), NONE, "mistake", 0);
        EDGES.answers(laid.strand("ab").then("run", 2, 1, 2, 3), NONE, "mistake", 0);
        EDGES.answers(laid.strand("ab").then("run", 2, 1, 2, 3), 5, "rule", 8);
        EDGES.answers(laid.strand("abc").then("run", 2, 1, 2, 3), 3, "mistake", 0);
    }

    /** "1 NULL (nothing)". */
    private static void runFaultNull() {
        for (int lane = 0; lane <= 2; lane++) {
            runs(Edges.SOME, 0, NULL, 3, lane, 0, 1);
            runs(Edges.NEW, 0, NULL, 0, lane, 0, 32);
        }
        // Of no cells is not nothing.
        runs(Edges.SOME, 0, INDEX, 2, 2, 0, 1);
    }

    /** "2 CAST (another lane)". */
    private static void runFaultCast() {
        int[] lanes = {0, 1, 2};
        for (int k = 0; k <= 2; k++) {
            for (int lane = 0; lane <= 2; lane++) {
                if (lane != lanes[k]) {
                    runs(Edges.SOME, 0, CAST, k, lane, 0, 1);
                }
            }
        }
        runs(Edges.SOME, 1, 0, 0, 0, 0, 1);
        runs(Edges.SOME, 1, 0, 1, 1, 0, 1);
    }

    /** "3 INDEX". */
    private static void runFaultIndex() {
        for (int f : new int[] {MIN, -32, -1, 3, 4, 32, MAX - 31, MAX}) {
            runs(Edges.SOME, 0, INDEX, 1, 1, f, 1);
            runs(Edges.SOME, 0, INDEX, 1, 1, f, 32);
        }
        runs(Edges.SOME, 1, 0, 1, 1, 2, 1);
        runs(Edges.SOME, 1, INDEX, 1, 1, 2, 2);
    }

    /** "A FAULT is what the machine finds, the first of these". */
    private static void theFirstOfTheFaults() {
        for (int f : new int[] {MIN, -1, 99, MAX}) {
            runs(Edges.SOME, 0, NULL, 3, 1, f, 1);
            runs(Edges.SOME, 0, CAST, 0, 1, f, 1);
            runs(Edges.SOME, 0, CAST, 2, 0, f, 1);
            runs(Edges.SOME, 0, INDEX, 2, 2, f, 1);
        }
    }

    /** "by a FAULT no more (torn() tells it ..)": those ahead of it are strung. */
    private static void byAFaultNoMore() {
        Script two = Edges.NEW.then("draw", 0, 12, 16, 1).then("sheet", 2, 1, 32);
        for (int f = 0; f <= 32; f++) {
            runs(two, 32 - f, f == 0 ? 0 : INDEX, 2, 1, f, 32);
            EDGES.answers(two.then("run", 2, 1, f, 32), 32 - f, "rule", 8);
        }
    }

    /** "nor by what string() then refuses (torn() tells 0 ..)": no colour, no room. */
    private static void byWhatStringRefuses() {
        Script row = of("row aaa;").then("sheet", 0, 0, 5);
        for (int v : new int[] {-128, -1, 6, 127}) {
            runs(row.then("lay", 0, 0, v), 0, 0, 0, 0, 0, 5);
            runs(row.then("lay", 0, 1, v), 1, 0, 0, 0, 0, 5);
            EDGES.answers(row.then("lay", 0, 1, v).then("run", 0, 0, 0, 5), 1, "rule", 8);
        }
        runs(row, 3, 0, 0, 0, 0, 3);
        runs(row, 3, 0, 0, 0, 0, 4);
        runs(row.strand("aa"), 1, 0, 0, 0, 0, 5);
        runs(row.strand("aaa"), 0, 0, 0, 0, 0, 5);
        // The fault of an earlier run is not told again.
        runs(row.then("run", 1, 0, 0, 1).strand("aaa"), 0, 0, 0, 0, 0, 5);
        // Of no picture there is no room.
        runs(Edges.NEW.then("sheet", 0, 0, 5), 0, 0, 0, 0, 0, 5);
    }

    /** "(.. the CELL is taken first)": its FAULT is told where string() would refuse, too. */
    private static void theCellIsTakenFirst() {
        Script full = of("row a;").strand("a").then("sheet", 0, 0, 2);
        runs(full, 0, INDEX, 0, 0, 2, 1);
        runs(full, 0, INDEX, 0, 0, -1, 1);
        runs(full, 0, CAST, 0, 1, 0, 1);
        runs(full, 0, NULL, 1, 0, 0, 1);
        runs(full, 0, 0, 0, 0, 1, 2);
        Script room = of("row ab;").then("sheet", 0, 0, 2);
        // Both cells are strung, the third is no more: its index, ahead of the room that lacks.
        runs(room, 2, INDEX, 0, 0, 0, 3);
        runs(Edges.NEW, 0, NULL, 0, 0, 0, 1);
    }

    /** "(torn() tells 0; of n 0, too, whatever the SHEET is)". */
    private static void noFaultOfNone() {
        for (int k = 0; k <= 3; k++) {
            for (int lane = 0; lane <= 2; lane++) {
                for (int f : new int[] {MIN, -1, 0, 5, 32, MAX}) {
                    // Ahead of it INDEX was told.
                    runs(Edges.SOME, 0, 0, k, lane, f, 0);
                }
            }
        }
        Script clean = Edges.SOME.then("run", 3, 0, 0, 0);
        EDGES.changesNothing(clean, 0, "run", 3, 0, MIN, 0);
        EDGES.answers(clean, 5, "rule", 8);
    }

    // ---- promises 32, 33

    /** "The FAULT of the latest run() that was not BAD; 0." */
    private static void tornOfTheLatestNotBad() {
        Script[] runs = {Edges.SOME.then("run", 0, 0, 0, 1), Edges.SOME.then("run", 3, 0, 0, 1),
            Edges.SOME.then("run", 0, 1, 0, 1), Edges.SOME.then("run", 0, 0, 9, 1)};
        for (int torn = 0; torn <= INDEX; torn++) {
            EDGES.changesNothing(runs[torn], torn, "torn");
            EDGES.refused(runs[torn], BAD, "run", 4, 0, 0, 1);
            EDGES.refused(runs[torn], BAD, "run", 0, 3, 0, 1);
            EDGES.refused(runs[torn], BAD, "run", 0, 0, 0, 33);
            EDGES.refused(runs[torn], BAD, "run", 0, 0, 0, -1);
            // What lay() and sheet() find is told by them alone.
            EDGES.answers(runs[torn].then("lay", 3, 0, 0).then("sheet", 0, 0, -1).then("lay", 0, 99, 0), torn, "torn");
            EDGES.answers(runs[torn].text("row a;"), torn, "torn");
            EDGES.answers(runs[torn].then("run", 3, 0, 0, 1), NULL, "torn");
            EDGES.answers(runs[torn].then("run", 1, 1, 0, 1), 0, "torn");
        }
        EDGES.answers(Edges.NEW, 0, "torn");
    }

    /** count: "0 IMAGES, 1 bytes on THE TAPE, 2 CELLS of SHEET 0 .. BAD." */
    private static void countsThereAre() {
        EDGES.refusedEach(Edges.NEW, BAD, "count", MIN, -1, 3, MAX);
        EDGES.refusedEach(Edges.SOME, BAD, "count", MIN, -1, 3, MAX);
        EDGES.changesNothing(Edges.SOME, 1, "count", 0);
        EDGES.changesNothing(Edges.SOME, 9, "count", 1);
        EDGES.changesNothing(Edges.SOME, 5, "count", 2);
    }

    /** IMAGES: none, one (of either), both. */
    private static void countImages() {
        EDGES.answers(Edges.NEW, 0, "count", 0);
        EDGES.answers(Edges.NEW.then("keep", 0), 1, "count", 0);
        EDGES.answers(Edges.NEW.then("keep", 1), 1, "count", 0);
        EDGES.answers(Edges.NEW.then("keep", 1).then("keep", 1), 1, "count", 0);
        EDGES.answers(Edges.NEW.then("keep", 1).then("keep", 0), 2, "count", 0);
        EDGES.answers(Edges.NEW.then("keep", 1).then("keep", 0).then("back", 0), 2, "count", 0);
        EDGES.answers(Edges.NEW.then("keep", 1).then("keep", 0).then("text"), 0, "count", 0);
    }

    /** Bytes: none to 300. */
    private static void countBytes() {
        EDGES.answers(Edges.NEW, 0, "count", 1);
        EDGES.answers(Edges.NEW.feed(" "), 1, "count", 1);
        EDGES.answers(Edges.FULL_TAPE, 300, "count", 1);
        EDGES.answers(Edges.FULL_TAPE.then("feed", 0), 300, "count", 1);
        EDGES.answers(Edges.FULL_TAPE.then("text"), 0, "count", 1);
    }

    /** "2 CELLS of SHEET 0 (NONE: nothing)": of no other. */
    private static void countCells() {
        EDGES.refused(Edges.NEW, NONE, "count", 2);
        EDGES.answers(Edges.NEW.then("sheet", 1, 0, 9).then("sheet", 3, 0, 9), NONE, "count", 2);
        EDGES.answers(Edges.NEW.then("sheet", 0, 0, 0), 0, "count", 2);
        EDGES.answers(Edges.NEW.then("sheet", 0, 2, 32), 32, "count", 2);
        EDGES.answers(Edges.NEW.then("sheet", 0, 2, 32).then("sheet", 0, 1, 4), 4, "count", 2);
        EDGES.answers(Edges.NEW.then("sheet", 0, 2, 32).then("sheet", 0, 1, -1), 32, "count", 2);
        EDGES.answers(Edges.NEW.then("sheet", 0, 0, -1), NONE, "count", 2);
    }
}
