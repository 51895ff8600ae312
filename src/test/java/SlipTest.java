/** Promises 12 to 16: tell, tear, spoken, said, add. */
public final class SlipTest {
    private static final Check CHECK = new Check();

    public static void main(String[] args) {
        tellAndTear();
        likeRows();
        mirrored();
        times();
        plain();
        emptyPicture();
        adding();
        addingToAndFro();
        CHECK.end();
    }

    private static void tellAndTear() {
        BeadWords x = new BeadWords();
        CHECK.due("tear() at first", x.tear(), 0);
        CHECK.due("tell(-1)", x.tell(-1), BeadWords.BAD);
        CHECK.due("tell(100)", x.tell(100), BeadWords.BAD);
        for (int i = 1; i <= 40; i++) {
            CHECK.due("tell(99)", x.tell(i % 2 == 0 ? 99 : 0), i);
        }
        CHECK.due("tell(0) of 40", x.tell(0), BeadWords.FULL);
        CHECK.due("tell(100) of 40", x.tell(100), BeadWords.BAD);
        CHECK.due("rule(9)", x.rule(9), 40);
        CHECK.due("tear()", x.tear(), 40);
        CHECK.due("rule(9)", x.rule(9), 0);
        CHECK.due("said(-1)", x.said(-1), BeadWords.BAD);
        CHECK.due("said(0)", x.said(0), BeadWords.NONE);
    }

    private static void spoken(BeadWords x, String want, int... words) {
        Check.slip(x, words);
        CHECK.spoken(x, want);
    }

    private static void likeRows() {
        BeadWords x = CHECK.read("fro;row abc;row abd;");
        spoken(x, "abc", 0, 0);
        spoken(x, "dba", 0, 1);
        spoken(x, "cba", 1, 0);
        spoken(x, "abd", 1, 1);
        spoken(x, "", 0, 2);
        spoken(x, "", 1, 2);
        spoken(x, "", 0, 99);
        spoken(x, "", 0);
        spoken(x, "", 0, 0, 0);
        spoken(x, "", 1, 0, 1, 1);
        spoken(x, "");
        spoken(x, "", 5, 0);
        spoken(x, "", 5, 3, 0);
    }

    private static void mirrored() {
        BeadWords odd = CHECK.read("row abcde;");
        spoken(odd, "abcba", 2, 1, 0, 1, 1, 1, 2);
        spoken(odd, "aaaaa", 2, 3, 0);
        spoken(odd, "aabaa", 2, 1, 0, 1, 0, 1, 1);
        spoken(odd, "", 2, 2, 0);
        spoken(odd, "", 2, 4, 0);
        spoken(odd, "", 2, 3);
        spoken(odd, "", 2);
        spoken(odd, "", 2, 3, 6);
        spoken(odd, "", 2, 0, 1, 3, 0);
        BeadWords even = CHECK.read("row abcd;");
        spoken(even, "abba", 2, 1, 0, 1, 1);
        spoken(even, "", 2, 3, 0);
        spoken(CHECK.read("row ab;"), "cc", 2, 1, 2);
        spoken(CHECK.read("row a;"), "", 2, 1, 2);
    }

    private static void times() {
        BeadWords x = CHECK.read("row abcdef;");
        spoken(x, "ababab", 3, 3, 1, 0, 1, 1);
        spoken(x, "aabaab", 3, 2, 2, 0, 1, 1);
        spoken(x, "ffffff", 3, 6, 1, 5);
        spoken(x, "ffffff", 3, 3, 1, 5, 1, 5);
        spoken(x, "", 3, 1, 6, 5);
        spoken(x, "", 3, 0, 6, 5);
        spoken(x, "", 3, 4, 2, 0);
        spoken(x, "", 3, 3, 1, 0);
        spoken(x, "", 3, 3);
        spoken(x, "", 3, 3, 2);
        spoken(x, "", 3, 3, 2, 6);
        spoken(x, "", 3, 99, 16, 0);
        spoken(CHECK.read("row abcdefabcdefabcd;"), "aaaaaaaaaaaaaaaa", 3, 16, 1, 0);
        spoken(CHECK.read("row abcdefabcdefabcd;"), "", 3, 17, 1, 0);
    }

    private static void plain() {
        BeadWords x = CHECK.read("row abcdefabcdefabcd;");
        spoken(x, "aaaaaaaaaaaaaaaa", 4, 16, 0);
        spoken(x, "aaaaaaaabbbbbbbb", 4, 8, 0, 8, 1);
        spoken(x, "aaaaaaaaaaaaaaaa", 4, 8, 0, 8, 0);
        spoken(x, "", 4, 17, 0);
        spoken(x, "", 4, 16, 6);
        spoken(x, "", 4, 16, 0, 1, 0);
        spoken(x, "", 4, 16, 0, 0, 0);
        spoken(x, "", 4, 16);
        spoken(x, "", 4, 15, 0);
        spoken(x, "", 4, 16, 0, 1);
        spoken(x, "", 4);
        spoken(x, "abcdefabcdefabcd",
            4, 1, 0, 1, 1, 1, 2, 1, 3, 1, 4, 1, 5, 1, 0, 1, 1, 1, 2, 1, 3, 1, 4, 1, 5, 1, 0, 1, 1, 1, 2, 1, 3);
    }

    private static void emptyPicture() {
        BeadWords x = new BeadWords();
        spoken(x, "", 0, 0);
        spoken(x, "", 1, 0);
        spoken(x, "", 2, 1, 0);
        spoken(x, "abab", 3, 2, 1, 0, 1, 1);
        spoken(x, "", 3, 2, 9, 0);
        spoken(x, "aaaaaaaaaaaaaaaa", 3, 2, 8, 0);
        spoken(x, "a", 4, 1, 0);
        spoken(x, "", 4, 0, 0);
        spoken(x, "aaaaaaaaaaaaaaab", 4, 15, 0, 1, 1);
        spoken(x, "", 4, 15, 0, 2, 1);
        CHECK.due("add()", x.add(), BeadWords.STATE);
        spoken(x, "aab", 4, 2, 0, 1, 1);
        CHECK.due("add()", x.add(), 1);
        CHECK.beads(x, 0, "aab");
        // With its last row gone a picture is empty again, of any width.
        CHECK.due("change(0, 2)", x.change(0, 2), 0);
        spoken(x, "bbbbb", 4, 5, 1);
        CHECK.due("add()", x.add(), 1);
        CHECK.due("rule(1)", x.rule(1), 5);
    }

    private static void adding() {
        BeadWords x = CHECK.read("row ab;");
        x.string(0);
        CHECK.due("add() of nothing", x.add(), BeadWords.STATE);
        Check.slip(x, 4, 1, 2);
        CHECK.due("add() of one bead", x.add(), BeadWords.STATE);
        CHECK.due("rule(9)", x.rule(9), 3);
        for (int rows = 2; rows <= 12; rows++) {
            Check.slip(x, 1, rows - 2);
            CHECK.due("add()", x.add(), rows);
            CHECK.due("rule(9)", x.rule(9), 0);
        }
        CHECK.due("rule(8)", x.rule(8), 1);
        CHECK.beads(x, 11, "ba");
        CHECK.due("add() of nothing to 12", x.add(), BeadWords.STATE);
        Check.slip(x, 0, 11);
        CHECK.due("add() to 12", x.add(), BeadWords.FULL);
        CHECK.due("rule(9)", x.rule(9), 2);
        CHECK.due("rule(0)", x.rule(0), 12);
    }

    private static void addingToAndFro() {
        BeadWords x = CHECK.read("fro;row abc;");
        Check.slip(x, 0, 0);
        CHECK.due("add()", x.add(), 2);
        CHECK.beads(x, 1, "cba");
        CHECK.told(x, 1, 0, 0);
        Check.slip(x, 4, 1, 3, 1, 4, 1, 5);
        CHECK.due("add()", x.add(), 3);
        CHECK.beads(x, 2, "def");
    }
}
