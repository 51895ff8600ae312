/** Promises 27 to 33: keep, back, sheet, lay, run, torn, count. */
public final class SheetTest {
    private static final Check CHECK = new Check();

    public static void main(String[] args) {
        images();
        imagesOfNothing();
        sheets();
        laying();
        lowestBits();
        running();
        faultsOfRuns();
        runsThatStop();
        counts();
        CHECK.end();
    }

    private static void images() {
        BeadWords x = CHECK.read("fro;row abc;row def;");
        CHECK.due("keep(-1)", x.keep(-1), BeadWords.BAD);
        CHECK.due("keep(2)", x.keep(2), BeadWords.BAD);
        CHECK.due("back(-1)", x.back(-1), BeadWords.BAD);
        CHECK.due("back(2)", x.back(2), BeadWords.BAD);
        CHECK.due("back(0)", x.back(0), BeadWords.STATE);
        Check.strand(x, "ab");
        CHECK.due("keep(1)", x.keep(1), 0);
        CHECK.due("count(0)", x.count(0), 1);
        x.draw(9, 5, 7, 3);
        x.mode(0);
        CHECK.due("keep(0)", x.keep(0), 0);
        CHECK.due("count(0)", x.count(0), 2);
        CHECK.due("back(1)", x.back(1), 2);
        CHECK.due("rule(2)", x.rule(2), 1);
        CHECK.due("rule(8)", x.rule(8), 2);
        CHECK.beads(x, 0, "abc");
        CHECK.plan(x, "abcfed");
        // The image is not the picture: what is done to this leaves that.
        x.string(0);
        CHECK.mistake(x, 2);
        x.paint(0, 0, 5);
        CHECK.due("back(1)", x.back(1), 2);
        CHECK.due("bead(0, 0)", x.bead(0, 0), 0);
        CHECK.due("rule(8)", x.rule(8), 2);
        CHECK.due("string(2)", x.string(2), 3);
        CHECK.due("mistake(0)", x.mistake(0), BeadWords.NONE);
        CHECK.due("keep(1)", x.keep(1), 1);
        CHECK.due("back(0)", x.back(0), 5);
        CHECK.due("rule(1)", x.rule(1), 7);
        CHECK.due("rule(2)", x.rule(2), 0);
        CHECK.due("rule(8)", x.rule(8), 0);
        CHECK.due("back(1)", x.back(1), 2);
        CHECK.due("rule(8)", x.rule(8), 3);
    }

    private static void imagesOfNothing() {
        BeadWords x = new BeadWords();
        x.tell(4);
        CHECK.due("keep(0)", x.keep(0), 0);
        x.draw(1, 2, 3, 4);
        x.tell(1);
        CHECK.due("back(0)", x.back(0), 0);
        CHECK.due("rule(1)", x.rule(1), 0);
        CHECK.due("rule(9)", x.rule(9), 2);
    }

    private static void sheets() {
        BeadWords x = new BeadWords();
        CHECK.due("sheet(-1, 0, 1)", x.sheet(-1, 0, 1), BeadWords.BAD);
        CHECK.due("sheet(4, 0, 1)", x.sheet(4, 0, 1), BeadWords.BAD);
        CHECK.due("sheet(0, -1, 1)", x.sheet(0, -1, 1), BeadWords.BAD);
        CHECK.due("sheet(0, 3, 1)", x.sheet(0, 3, 1), BeadWords.BAD);
        CHECK.due("sheet(0, 0, 33)", x.sheet(0, 0, 33), BeadWords.BAD);
        CHECK.due("sheet(0, 0, -1)", x.sheet(0, 0, -1), -14);
        CHECK.due("sheet(0, 0, MIN)", x.sheet(0, 0, Integer.MIN_VALUE), -14);
        CHECK.due("sheet(4, 0, -1)", x.sheet(4, 0, -1), BeadWords.BAD);
        CHECK.due("sheet(0, 3, -1)", x.sheet(0, 3, -1), BeadWords.BAD);
        CHECK.due("count(2)", x.count(2), BeadWords.NONE);
        CHECK.due("sheet(0, 2, 32)", x.sheet(0, 2, 32), 1);
        CHECK.due("count(2)", x.count(2), 32);
        CHECK.due("sheet(0, 0, -1)", x.sheet(0, 0, -1), -14);
        CHECK.due("count(2)", x.count(2), 32);
        CHECK.due("sheet(0, 1, 0)", x.sheet(0, 1, 0), 1);
        CHECK.due("count(2)", x.count(2), 0);
        CHECK.due("sheet(3, 1, 4)", x.sheet(3, 1, 4), 1);
        CHECK.due("count(2)", x.count(2), 0);
    }

    private static void laying() {
        BeadWords x = new BeadWords();
        CHECK.due("lay(-1, 0, 0)", x.lay(-1, 0, 0), BeadWords.BAD);
        CHECK.due("lay(4, 0, 0)", x.lay(4, 0, 0), BeadWords.BAD);
        CHECK.due("lay(3, 0, 0)", x.lay(3, 0, 0), -11);
        CHECK.due("lay(3, -1, 0)", x.lay(3, -1, 0), -11);
        x.sheet(3, 1, 2);
        CHECK.due("lay(3, -1, 0)", x.lay(3, -1, 0), -13);
        CHECK.due("lay(3, 2, 0)", x.lay(3, 2, 0), -13);
        CHECK.due("lay(3, MAX, 0)", x.lay(3, Integer.MAX_VALUE, 0), -13);
        CHECK.due("lay(3, 1, 0)", x.lay(3, 1, 0), 1);
        x.sheet(2, 0, 0);
        CHECK.due("lay(2, 0, 0)", x.lay(2, 0, 0), -13);
        // A new row has cells of 0 alone.
        x.draw(1, 1, 4, 1);
        x.sheet(1, 2, 4);
        x.lay(1, 0, 9);
        x.sheet(1, 2, 4);
        CHECK.due("run(1, 2, 0, 4)", x.run(1, 2, 0, 4), 4);
        CHECK.due("mistake(0)", x.mistake(0), BeadWords.NONE);
    }

    private static void lowestBits() {
        int[] laid = {5, 256 + 5, 65536 + 5, -251, Integer.MIN_VALUE + 3, 128, 32768 + 1};
        // Which of these are beads by bytes, shorts, ints.
        int[][] due = {{5, 5, 5}, {5, -1, -1}, {5, 5, -1}, {5, -1, -1}, {3, 3, -1}, {-1, -1, -1}, {1, -1, -1}};
        for (int i = 0; i < laid.length; i++) {
            for (int lane = 0; lane < 3; lane++) {
                BeadWords x = CHECK.read("row a;");
                x.sheet(0, lane, 1);
                x.lay(0, 0, laid[i]);
                String call = "run of " + laid[i] + " by lane " + lane;
                CHECK.due(call, x.run(0, lane, 0, 1), due[i][lane] < 0 ? 0 : 1);
                x.paint(0, 0, due[i][lane] < 0 ? 0 : due[i][lane]);
                CHECK.due(call, x.run(0, lane, 0, 1), due[i][lane] < 0 ? 0 : 1);
                CHECK.due(call, x.mistake(0), BeadWords.NONE);
            }
        }
    }

    private static void running() {
        BeadWords x = CHECK.read("row abcdef;");
        x.sheet(2, 1, 8);
        for (int i = 0; i < 8; i++) {
            x.lay(2, i, i);
        }
        CHECK.due("run(-1, 1, 0, 1)", x.run(-1, 1, 0, 1), BeadWords.BAD);
        CHECK.due("run(4, 1, 0, 1)", x.run(4, 1, 0, 1), BeadWords.BAD);
        CHECK.due("run(2, -1, 0, 1)", x.run(2, -1, 0, 1), BeadWords.BAD);
        CHECK.due("run(2, 3, 0, 1)", x.run(2, 3, 0, 1), BeadWords.BAD);
        CHECK.due("run(2, 1, 0, -1)", x.run(2, 1, 0, -1), BeadWords.BAD);
        CHECK.due("run(2, 1, 0, 33)", x.run(2, 1, 0, 33), BeadWords.BAD);
        CHECK.due("rule(8)", x.rule(8), 0);
        CHECK.due("run(2, 1, 0, 2)", x.run(2, 1, 0, 2), 2);
        CHECK.due("run(2, 1, 2, 3)", x.run(2, 1, 2, 3), 3);
        CHECK.due("rule(8)", x.rule(8), 5);
        CHECK.due("mistake(0)", x.mistake(0), BeadWords.NONE);
    }

    private static void torn(BeadWords x, int k, int lane, int f, int n, int strung, int fault) {
        String call = "run(" + k + ", " + lane + ", " + f + ", " + n + ")";
        CHECK.due(call, x.run(k, lane, f, n), strung);
        CHECK.due("torn() of " + call, x.torn(), fault);
    }

    private static void faultsOfRuns() {
        BeadWords x = new BeadWords();
        x.draw(1, 12, 16, 6);
        x.sheet(1, 1, 4);
        x.sheet(2, 2, 0);
        torn(x, 0, 0, 0, 1, 0, 1);
        torn(x, 0, 0, -1, 1, 0, 1);
        torn(x, 1, 0, 0, 1, 0, 2);
        torn(x, 1, 2, 9, 1, 0, 2);
        torn(x, 1, 1, -1, 3, 0, 3);
        torn(x, 1, 1, 4, 1, 0, 3);
        torn(x, 1, 1, Integer.MAX_VALUE, 32, 0, 3);
        torn(x, 1, 1, Integer.MIN_VALUE, 32, 0, 3);
        torn(x, 2, 2, 0, 1, 0, 3);
        CHECK.due("rule(8)", x.rule(8), 0);
        torn(x, 1, 1, 1, 32, 3, 3);
        CHECK.due("rule(8)", x.rule(8), 3);
        CHECK.due("run(1, 1, 0, 33)", x.run(1, 1, 0, 33), BeadWords.BAD);
        CHECK.due("torn() behind BAD", x.torn(), 3);
        // Of none no cell is taken, so no fault is found.
        torn(x, 0, 0, 0, 0, 0, 0);
        torn(x, 1, 0, -5, 0, 0, 0);
    }

    private static void runsThatStop() {
        BeadWords x = CHECK.read("row aaa;");
        x.sheet(0, 0, 5);
        x.lay(0, 1, 6);
        torn(x, 1, 0, 0, 1, 0, 1);
        torn(x, 0, 0, 0, 5, 1, 0);
        x.lay(0, 1, -1);
        torn(x, 0, 0, 1, 1, 0, 0);
        torn(x, 0, 0, 2, 3, 2, 0);
        CHECK.due("rule(8)", x.rule(8), 3);
        torn(x, 0, 0, 2, 3, 0, 0);
        // The cell is taken ahead of the bead that finds no room.
        torn(x, 0, 0, 5, 1, 0, 3);
        torn(x, 0, 1, 0, 1, 0, 2);
    }

    private static void counts() {
        BeadWords x = new BeadWords();
        x.feed(32);
        CHECK.due("count(-1)", x.count(-1), BeadWords.BAD);
        CHECK.due("count(3)", x.count(3), BeadWords.BAD);
        CHECK.due("count(1)", x.count(1), 1);
        x.keep(0);
        x.keep(0);
        CHECK.due("count(0)", x.count(0), 1);
        x.keep(1);
        CHECK.due("count(0)", x.count(0), 2);
        x.text();
        CHECK.due("count(0)", x.count(0), 0);
        CHECK.due("count(1)", x.count(1), 0);
    }
}
