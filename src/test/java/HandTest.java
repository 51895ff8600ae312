/** Promises 21 to 26: paint, dye, change, swap, mode, draw. */
public final class HandTest {
    private static final Check CHECK = new Check();

    public static void main(String[] args) {
        painting();
        dyeing();
        changing();
        changingFullAndEmpty();
        swapping();
        modes();
        drawing();
        drawnByTheWords();
        CHECK.end();
    }

    /** What is taken ends the thread; what is refused leaves it. */
    private static void strand(BeadWords x, int want) {
        CHECK.due("rule(8)", x.rule(8), want);
        x.off(x.rule(8));
        x.string(0);
    }

    private static void painting() {
        BeadWords x = CHECK.read("fro;row abc;row def;");
        strand(x, 0);
        CHECK.due("paint(2, 0, 0)", x.paint(2, 0, 0), BeadWords.BAD);
        CHECK.due("paint(-1, 0, 0)", x.paint(-1, 0, 0), BeadWords.BAD);
        CHECK.due("paint(0, 3, 0)", x.paint(0, 3, 0), BeadWords.BAD);
        CHECK.due("paint(0, -1, 0)", x.paint(0, -1, 0), BeadWords.BAD);
        CHECK.due("paint(0, 0, 6)", x.paint(0, 0, 6), BeadWords.BAD);
        CHECK.due("paint(0, 0, -1)", x.paint(0, 0, -1), BeadWords.BAD);
        strand(x, 1);
        CHECK.due("paint(1, 0, 0)", x.paint(1, 0, 0), 3);
        strand(x, 0);
        CHECK.due("paint(1, 0, 0)", x.paint(1, 0, 0), 0);
        strand(x, 0);
        CHECK.beads(x, 1, "aef");
        CHECK.beads(x, 0, "abc");
    }

    private static void dyeing() {
        BeadWords x = CHECK.read("row abc;row aaf;");
        strand(x, 0);
        CHECK.due("dye(-1, 0)", x.dye(-1, 0), BeadWords.BAD);
        CHECK.due("dye(6, 0)", x.dye(6, 0), BeadWords.BAD);
        CHECK.due("dye(0, -1)", x.dye(0, -1), BeadWords.BAD);
        CHECK.due("dye(0, 6)", x.dye(0, 6), BeadWords.BAD);
        strand(x, 1);
        CHECK.due("dye(4, 0)", x.dye(4, 0), 0);
        strand(x, 0);
        CHECK.due("dye(0, 0)", x.dye(0, 0), 3);
        strand(x, 0);
        CHECK.due("dye(0, 5)", x.dye(0, 5), 3);
        strand(x, 0);
        CHECK.beads(x, 0, "fbc");
        CHECK.beads(x, 1, "fff");
        CHECK.due("dye(0, 1) of nothing", new BeadWords().dye(0, 1), 0);
    }

    private static void changing() {
        BeadWords x = CHECK.read("fro;row abcd;row efab;row cdef;");
        strand(x, 0);
        CHECK.due("change(3, 0)", x.change(3, 0), BeadWords.BAD);
        CHECK.due("change(-1, 0)", x.change(-1, 0), BeadWords.BAD);
        CHECK.due("change(0, -1)", x.change(0, -1), BeadWords.BAD);
        CHECK.due("change(0, 4)", x.change(0, 4), BeadWords.BAD);
        strand(x, 1);
        CHECK.due("change(1, 0)", x.change(1, 0), 3);
        strand(x, 0);
        CHECK.beads(x, 1, "bafe");
        CHECK.due("change(1, 1)", x.change(1, 1), 3);
        strand(x, 0);
        CHECK.beads(x, 1, "ebaf");
        CHECK.due("change(0, 3)", x.change(0, 3), 4);
        strand(x, 0);
        CHECK.beads(x, 0, "abcd");
        CHECK.beads(x, 1, "abcd");
        CHECK.beads(x, 2, "ebaf");
        CHECK.beads(x, 3, "cdef");
        CHECK.due("change(1, 2)", x.change(1, 2), 3);
        strand(x, 0);
        CHECK.beads(x, 1, "ebaf");
        CHECK.beads(x, 2, "cdef");
        CHECK.due("bead(3, 0)", x.bead(3, 0), BeadWords.BAD);
        BeadWords odd = CHECK.read("row abc;");
        odd.change(0, 0);
        CHECK.beads(odd, 0, "cba");
    }

    private static void changingFullAndEmpty() {
        BeadWords x = CHECK.read("row ab;");
        for (int rows = 2; rows <= 12; rows++) {
            CHECK.due("change(0, 3)", x.change(0, 3), rows);
        }
        strand(x, 0);
        CHECK.due("change(0, 3) of 12", x.change(0, 3), BeadWords.FULL);
        CHECK.due("change(12, 3) of 12", x.change(12, 3), BeadWords.BAD);
        strand(x, 1);
        CHECK.due("change(11, 0) of 12", x.change(11, 0), 12);
        CHECK.beads(x, 11, "ba");
        for (int rows = 11; rows >= 0; rows--) {
            CHECK.due("change(0, 2)", x.change(0, 2), rows);
        }
        CHECK.due("rule(1)", x.rule(1), 0);
        CHECK.due("rule(3)", x.rule(3), 0);
        CHECK.due("change(0, 2) of nothing", x.change(0, 2), BeadWords.BAD);
        BeadWords one = CHECK.read("row c;");
        CHECK.due("change(0, 1) of W 1", one.change(0, 1), 1);
        CHECK.beads(one, 0, "c");
    }

    private static void swapping() {
        BeadWords x = CHECK.read("fro;row abc;row cba;row abc;");
        strand(x, 0);
        CHECK.due("swap(0, 3)", x.swap(0, 3), BeadWords.BAD);
        CHECK.due("swap(3, 0)", x.swap(3, 0), BeadWords.BAD);
        CHECK.due("swap(-1, 0)", x.swap(-1, 0), BeadWords.BAD);
        CHECK.due("swap(0, -1)", x.swap(0, -1), BeadWords.BAD);
        strand(x, 1);
        // The lines of 0 and 1 are alike, but not the rows from the left.
        CHECK.due("swap(0, 1)", x.swap(0, 1), 0);
        strand(x, 0);
        CHECK.beads(x, 0, "cba");
        CHECK.beads(x, 1, "abc");
        CHECK.due("swap(1, 2)", x.swap(1, 2), 1);
        CHECK.due("swap of first beads", CHECK.read("row ab;row bb;").swap(0, 1), 0);
        CHECK.due("swap of last beads", CHECK.read("row ab;row aa;").swap(1, 0), 0);
        CHECK.due("swap(2, 2)", x.swap(2, 2), 1);
        CHECK.beads(x, 2, "abc");
        strand(x, 0);
    }

    private static void modes() {
        BeadWords x = CHECK.read("row abc;row abc;");
        strand(x, 0);
        CHECK.due("mode(-1)", x.mode(-1), BeadWords.BAD);
        CHECK.due("mode(2)", x.mode(2), BeadWords.BAD);
        strand(x, 1);
        CHECK.due("mode(0)", x.mode(0), 0);
        strand(x, 0);
        CHECK.due("mode(1)", x.mode(1), 0);
        strand(x, 0);
        CHECK.due("mode(1)", x.mode(1), 1);
        CHECK.due("rule(2)", x.rule(2), 1);
        CHECK.plan(x, "abccba");
        CHECK.due("mode(0)", x.mode(0), 1);
        CHECK.plan(x, "abcabc");
    }

    private static void drawing() {
        BeadWords x = CHECK.read("fro;row abc;");
        x.keep(0);
        x.tell(7);
        strand(x, 0);
        int[][] wrong = {{0, 1, 1}, {13, 1, 1}, {1, 0, 1}, {1, 17, 1}, {1, 1, 0}, {1, 1, 7}, {-1, -1, -1}};
        for (int[] w : wrong) {
            CHECK.due("draw(1, ..)", x.draw(1, w[0], w[1], w[2]), BeadWords.BAD);
        }
        strand(x, 1);
        CHECK.beads(x, 0, "abc");
        CHECK.due("draw(1, 12, 16, 6)", x.draw(1, 12, 16, 6), 192);
        strand(x, 0);
        CHECK.due("rule(0)", x.rule(0), 12);
        CHECK.due("rule(1)", x.rule(1), 16);
        CHECK.due("rule(2)", x.rule(2), 1);
        CHECK.due("rule(9)", x.rule(9), 1);
        CHECK.due("count(0)", x.count(0), 1);
        CHECK.due("draw(1, 1, 1, 1)", x.draw(1, 1, 1, 1), 1);
        CHECK.beads(x, 0, "a");
    }

    private static void drawnByTheWords() {
        int[] seeds = {0, 1, 2, 3, 5, 77, 12345, -1, -77, Integer.MAX_VALUE, Integer.MIN_VALUE};
        for (int seed : seeds) {
            for (int w = 1; w <= 16; w += 3) {
                int k = seed % 6 < 0 ? 6 : seed % 6 + 1;
                BeadWords x = new BeadWords();
                x.mode(1);
                x.draw(seed, 12, w, k);
                String[] want = Model.drawn(seed, 12, w, k);
                for (int r = 0; r < 12; r++) {
                    CHECK.beads(x, r, want[r]);
                }
            }
        }
    }
}
