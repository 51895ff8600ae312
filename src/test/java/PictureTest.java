/** Promises 6 to 11: rule, bead, many, row, words, word. */
public final class PictureTest {
    private static final Check CHECK = new Check();

    public static void main(String[] args) {
        rules();
        beadsAndMany();
        rowsFromTheLeft();
        rowsToAndFro();
        formsOfFewestWords();
        wordsByForms();
        wrongNumbers();
        CHECK.end();
    }

    private static void rules() {
        BeadWords x = CHECK.read("row aab;row baa;row aab;row fff;fro;");
        CHECK.due("rule(0)", x.rule(0), 4);
        CHECK.due("rule(1)", x.rule(1), 3);
        CHECK.due("rule(2)", x.rule(2), 1);
        CHECK.due("rule(3)", x.rule(3), 12);
        // plain 5, as 2, as 2, mirror 3
        CHECK.due("rule(4)", x.rule(4), 12);
        CHECK.due("rule(5)", x.rule(5), 2);
        CHECK.due("rule(6)", x.rule(6), 7);
        CHECK.due("rule(7)", x.rule(7), 3);
        CHECK.due("rule(8)", x.rule(8), 0);
        CHECK.due("rule(9)", x.rule(9), 0);
        x.string(3);
        x.tell(9);
        x.tell(9);
        CHECK.due("rule(8)", x.rule(8), 1);
        CHECK.due("rule(9)", x.rule(9), 2);
        CHECK.due("rule(10)", x.rule(10), BeadWords.BAD);
        CHECK.due("rule(-1)", x.rule(-1), BeadWords.BAD);
        // From the left the rows 0 and 1 are turned, not alike.
        x.mode(0);
        CHECK.due("rule(5)", x.rule(5), 3);
        CHECK.due("rule(4)", x.rule(4), 12);
    }

    private static void beadsAndMany() {
        BeadWords x = CHECK.read("fro;row aabc;row cbaa;");
        CHECK.beads(x, 0, "aabc");
        CHECK.beads(x, 1, "cbaa");
        CHECK.due("many(0, 0)", x.many(0, 0), 2);
        CHECK.due("many(1, 2)", x.many(1, 2), 1);
        CHECK.due("many(1, 5)", x.many(1, 5), 0);
        CHECK.due("many(NONE, 0)", x.many(BeadWords.NONE, 0), 4);
        CHECK.due("many(NONE, 5)", x.many(BeadWords.NONE, 5), 0);
        CHECK.due("many(NONE, 0) of nothing", new BeadWords().many(BeadWords.NONE, 0), 0);
    }

    private static void rowsFromTheLeft() {
        BeadWords x = CHECK.read("row aabbaabb;row bbaabbaa;row aabbaabb;row aaaaaaaa;row abcdefab;");
        CHECK.due("row(0, 2)", x.row(0, 2), 4);
        CHECK.due("row(0, 3)", x.row(0, 3), 0);
        CHECK.due("row(0, 4)", x.row(0, 4), 2);
        CHECK.due("row(0, 5)", x.row(0, 5), 4);
        CHECK.due("row(1, 3)", x.row(1, 3), 1);
        CHECK.due("row(1, 4)", x.row(1, 4), 1);
        CHECK.due("row(2, 3)", x.row(2, 3), 0);
        CHECK.due("row(2, 4)", x.row(2, 4), 2);
        CHECK.due("row(3, 2)", x.row(3, 2), 1);
        CHECK.due("row(3, 5)", x.row(3, 5), 1);
        CHECK.due("row(4, 2)", x.row(4, 2), 8);
        CHECK.due("row(4, 5)", x.row(4, 5), 8);
        CHECK.due("row(0, 5) of W 1", CHECK.read("row a;").row(0, 5), 1);
        // A part that comes again, but not a whole number of times, is none.
        CHECK.due("row(0, 5)", CHECK.read("row abcabca;").row(0, 5), 7);
    }

    private static void rowsToAndFro() {
        BeadWords x = CHECK.read("fro;row aab;row baa;row baa;row baa;");
        CHECK.due("row(1, 3)", x.row(1, 3), 0);
        CHECK.due("row(2, 3)", x.row(2, 3), 2);
        CHECK.due("row(3, 3)", x.row(3, 3), 0);
        CHECK.due("row(3, 4)", x.row(3, 4), 3);
        CHECK.told(x, 0, 4, 2, 0, 1, 1);
        CHECK.told(x, 1, 0, 0);
        CHECK.told(x, 2, 1, 0);
        CHECK.told(x, 3, 0, 0);
        // An odd row is told from the right by its runs, too.
        CHECK.told(CHECK.read("fro;row ccd;row aab;"), 1, 4, 1, 1, 2, 0);
    }

    private static void formsOfFewestWords() {
        // As and turned alike: the least form; the least row.
        CHECK.told(CHECK.read("row aba;row aba;row aba;"), 2, 0, 0);
        CHECK.told(CHECK.read("row abc;row cba;row cba;"), 2, 0, 1);
        CHECK.told(CHECK.read("row ddd;row abc;row cba;"), 2, 1, 1);
        CHECK.told(CHECK.read("row abcba;"), 0, 2, 1, 0, 1, 1, 1, 2);
        CHECK.told(CHECK.read("row aabbaa;"), 0, 2, 2, 0, 1, 1);
        CHECK.told(CHECK.read("row ababab;"), 0, 3, 3, 1, 0, 1, 1);
        CHECK.told(CHECK.read("row aaaa;"), 0, 2, 2, 0);
        CHECK.told(CHECK.read("row aa;"), 0, 2, 1, 0);
        // Lines that differ in their first bead alone, or in their last.
        CHECK.told(CHECK.read("row abc;row bbc;"), 1, 4, 2, 1, 1, 2);
        CHECK.told(CHECK.read("row abc;row abb;"), 1, 4, 1, 0, 2, 1);
        CHECK.told(CHECK.read("row a;"), 0, 4, 1, 0);
        CHECK.told(CHECK.read("row ab;"), 0, 4, 1, 0, 1, 1);
        // Row 0 alone has nothing ahead, though it is like a later one.
        CHECK.told(CHECK.read("row ab;row ab;"), 0, 4, 1, 0, 1, 1);
        // Mirror ahead of plain of as many words: aabbb is told plain, aaa mirrored.
        CHECK.told(CHECK.read("row aabbb;"), 0, 4, 2, 0, 3, 1);
        CHECK.told(CHECK.read("row abababababababab;"), 0, 3, 8, 1, 0, 1, 1);
        CHECK.told(CHECK.read("row abcdefabcdefabcd;"), 0,
            4, 1, 0, 1, 1, 1, 2, 1, 3, 1, 4, 1, 5, 1, 0, 1, 1, 1, 2, 1, 3, 1, 4, 1, 5, 1, 0, 1, 1, 1, 2, 1, 3);
        // abaaba: mirror 2,1,0,1,1,1,0 (7), times 3,2,1,0,1,1,1,0 (8).
        CHECK.told(CHECK.read("row abaaba;"), 0, 2, 1, 0, 1, 1, 1, 0);
        // Times of fewer words than mirror.
        CHECK.told(CHECK.read("row abaabaabaaba;"), 0, 3, 4, 1, 0, 1, 1, 1, 0);
    }

    private static void wordsByForms() {
        BeadWords x = CHECK.read("row abab;row baba;row abba;row aaaa;row aaaa;");
        CHECK.due("words(0, 0)", x.words(0, 0), BeadWords.NONE);
        CHECK.due("words(0, 1)", x.words(0, 1), BeadWords.NONE);
        CHECK.due("words(0, 2)", x.words(0, 2), BeadWords.NONE);
        CHECK.due("words(0, 3)", x.words(0, 3), 6);
        CHECK.due("words(0, 4)", x.words(0, 4), 9);
        CHECK.due("words(1, 0)", x.words(1, 0), BeadWords.NONE);
        CHECK.due("words(1, 1)", x.words(1, 1), 2);
        CHECK.due("words(2, 2)", x.words(2, 2), 5);
        CHECK.due("words(2, 3)", x.words(2, 3), BeadWords.NONE);
        CHECK.due("words(2, 4)", x.words(2, 4), 7);
        CHECK.due("words(3, 3)", x.words(3, 3), 4);
        CHECK.due("words(4, 0)", x.words(4, 0), 2);
        CHECK.due("words(4, 1)", x.words(4, 1), 2);
        BeadWords one = CHECK.read("row a;row a;");
        CHECK.due("words(0, 2) of W 1", one.words(0, 2), BeadWords.NONE);
        CHECK.due("words(0, 3) of W 1", one.words(0, 3), BeadWords.NONE);
        CHECK.due("words(1, 1) of W 1", one.words(1, 1), 2);
    }

    private static void wrongNumbers() {
        BeadWords x = CHECK.read("row ab;");
        CHECK.due("bead(-1, 0)", x.bead(-1, 0), BeadWords.BAD);
        CHECK.due("bead(1, 0)", x.bead(1, 0), BeadWords.BAD);
        CHECK.due("bead(0, -1)", x.bead(0, -1), BeadWords.BAD);
        CHECK.due("bead(0, 2)", x.bead(0, 2), BeadWords.BAD);
        CHECK.due("many(-1, 0)", x.many(-1, 0), BeadWords.BAD);
        CHECK.due("many(1, 0)", x.many(1, 0), BeadWords.BAD);
        CHECK.due("many(0, -1)", x.many(0, -1), BeadWords.BAD);
        CHECK.due("many(0, 6)", x.many(0, 6), BeadWords.BAD);
        CHECK.due("many(NONE, 6)", x.many(BeadWords.NONE, 6), BeadWords.BAD);
        CHECK.due("row(-1, 0)", x.row(-1, 0), BeadWords.BAD);
        CHECK.due("row(1, 0)", x.row(1, 0), BeadWords.BAD);
        CHECK.due("row(0, -1)", x.row(0, -1), BeadWords.BAD);
        CHECK.due("row(0, 6)", x.row(0, 6), BeadWords.BAD);
        CHECK.due("words(-1, 4)", x.words(-1, 4), BeadWords.BAD);
        CHECK.due("words(1, 4)", x.words(1, 4), BeadWords.BAD);
        CHECK.due("words(0, -1)", x.words(0, -1), BeadWords.BAD);
        CHECK.due("words(0, 5)", x.words(0, 5), BeadWords.BAD);
        CHECK.due("word(-1, 0)", x.word(-1, 0), BeadWords.BAD);
        CHECK.due("word(1, 0)", x.word(1, 0), BeadWords.BAD);
        CHECK.due("word(0, -1)", x.word(0, -1), BeadWords.BAD);
        CHECK.due("word(0, MAX)", x.word(0, Integer.MAX_VALUE), BeadWords.NONE);
    }
}
