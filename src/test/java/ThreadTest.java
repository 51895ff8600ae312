/** Promises 17 to 20: string, off, plan, mistake. */
public final class ThreadTest {
    private static final Check CHECK = new Check();

    public static void main(String[] args) {
        stringAndOff();
        plans();
        noMistake();
        mistakes();
        likeKinds();
        mistakeInALaterRow();
        CHECK.end();
    }

    private static void stringAndOff() {
        BeadWords x = CHECK.read("row ab;row cd;");
        CHECK.due("string(-1)", x.string(-1), BeadWords.BAD);
        CHECK.due("string(6)", x.string(6), BeadWords.BAD);
        for (int i = 1; i <= 4; i++) {
            CHECK.due("string(5)", x.string(5), i);
        }
        CHECK.due("string(5) of all", x.string(5), BeadWords.FULL);
        CHECK.due("string(6) of all", x.string(6), BeadWords.BAD);
        CHECK.due("off(-1)", x.off(-1), BeadWords.BAD);
        CHECK.due("off(5)", x.off(5), BeadWords.BAD);
        CHECK.due("off(0)", x.off(0), 4);
        CHECK.due("off(3)", x.off(3), 1);
        CHECK.due("off(2)", x.off(2), BeadWords.BAD);
        CHECK.due("string(0)", x.string(0), 2);
        CHECK.due("off(2)", x.off(2), 0);
        CHECK.due("off(0)", x.off(0), 0);
        BeadWords none = new BeadWords();
        CHECK.due("string(0) of nothing", none.string(0), BeadWords.FULL);
        CHECK.due("string(6) of nothing", none.string(6), BeadWords.BAD);
        // A row more makes room for more beads.
        BeadWords more = CHECK.read("row a;");
        more.string(0);
        CHECK.due("string(0)", more.string(0), BeadWords.FULL);
        Check.slip(more, 0, 0);
        more.add();
        CHECK.due("string(0)", more.string(0), 2);
    }

    private static void plans() {
        BeadWords x = CHECK.read("row abc;row def;row fed;");
        CHECK.plan(x, "abcdeffed");
        x.mode(1);
        CHECK.plan(x, "abcfedfed");
        CHECK.due("plan(-1)", x.plan(-1), BeadWords.BAD);
        CHECK.due("plan(MAX)", x.plan(Integer.MAX_VALUE), BeadWords.NONE);
        CHECK.due("plan(0) of nothing", new BeadWords().plan(0), BeadWords.NONE);
        CHECK.due("plan(-1) of nothing", new BeadWords().plan(-1), BeadWords.BAD);
    }

    private static void noMistake() {
        BeadWords x = CHECK.read("row abc;");
        CHECK.due("mistake(-1)", x.mistake(-1), BeadWords.BAD);
        CHECK.due("mistake(7)", x.mistake(7), BeadWords.BAD);
        for (int what = 0; what <= 6; what++) {
            CHECK.due("mistake(" + what + ")", x.mistake(what), BeadWords.NONE);
        }
        Check.strand(x, "abc");
        CHECK.due("mistake(0)", x.mistake(0), BeadWords.NONE);
        CHECK.due("mistake(0) of nothing", new BeadWords().mistake(0), BeadWords.NONE);
    }

    private static BeadWords strung(String text, String beads) {
        BeadWords x = CHECK.read(text);
        Check.strand(x, beads);
        return x;
    }

    private static void mistakes() {
        CHECK.mistake(strung("row abcdef;", "abddef"), 2, 0, 2, 2, 0, 3, 4);
        CHECK.mistake(strung("row abcdef;", "abdef"), 2, 0, 2, 2, 1, 3, 3);
        CHECK.mistake(strung("row abcdef;", "abbcde"), 2, 0, 2, 2, 2, 3, 4);
        // The bead left out is the last but one: the mistake itself is as told by that.
        CHECK.mistake(strung("row abcdef;", "abcdf"), 4, 0, 4, 4, 1, 1, 1);
        // Behind the last bead of the plan there is none to be told by.
        CHECK.mistake(strung("row abcdef;", "abcdea"), 5, 0, 5, 5, 0, 0, 1);
        CHECK.mistake(strung("row abcdef;", "bcdefa"), 0, 0, 0, 0, 1, 5, 6);
        CHECK.mistake(strung("row abcdef;", "fabcde"), 0, 0, 0, 0, 2, 5, 6);
    }

    private static void likeKinds() {
        // Wrong 1 (the last a), left out 1 (the mistake), doubled 0.
        CHECK.mistake(strung("row aba;", "aaa"), 1, 0, 1, 1, 0, 1, 2);
        // Wrong 0, left out 2, doubled 2.
        CHECK.mistake(strung("row abab;", "aaba"), 1, 0, 1, 1, 1, 2, 3);
        // Wrong 0, left out 2, doubled 1.
        CHECK.mistake(strung("row abab;", "aab"), 1, 0, 1, 1, 1, 2, 2);
        CHECK.mistake(strung("row abcd;", "f"), 0, 0, 0, 0, 0, 0, 1);
        // Wrong 0, left out 0, doubled 1.
        CHECK.mistake(strung("row abcd;", "fa"), 0, 0, 0, 0, 2, 1, 2);
    }

    private static void mistakeInALaterRow() {
        BeadWords x = strung("fro;row abc;row def;row abc;", "abcfde");
        CHECK.mistake(x, 4, 1, 1, 4, 1, 1, 2);
        x.off(x.mistake(6));
        CHECK.due("mistake(0)", x.mistake(0), BeadWords.NONE);
        CHECK.due("rule(8)", x.rule(8), 4);
        CHECK.mistake(strung("row abc;row def;", "abcf"), 3, 1, 0, 3, 0, 0, 1);
    }
}
