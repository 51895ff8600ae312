/** Promises 1 to 5: a new object, feed, end, text, fault. */
public final class TextTest {
    private static final Check CHECK = new Check();

    public static void main(String[] args) {
        newObject();
        feedAndEnd();
        textsThatAreTaken();
        faults();
        faultsOfThirteenRows();
        whatAFaultLeaves();
        whatATextEnds();
        CHECK.end();
    }

    private static void newObject() {
        BeadWords x = new BeadWords();
        for (int what = 0; what <= 9; what++) {
            CHECK.due("rule(" + what + ") at first", x.rule(what), 0);
        }
        CHECK.due("fault() at first", x.fault(), 0);
        CHECK.due("torn() at first", x.torn(), 0);
        CHECK.due("count(0) at first", x.count(0), 0);
        CHECK.due("count(1) at first", x.count(1), 0);
        CHECK.due("count(2) at first", x.count(2), BeadWords.NONE);
        for (int k = 0; k < 4; k++) {
            CHECK.due("lay at first", x.lay(k, 0, 0), -11);
        }
    }

    private static void feedAndEnd() {
        BeadWords x = new BeadWords();
        CHECK.due("feed(-1)", x.feed(-1), BeadWords.BAD);
        CHECK.due("feed(128)", x.feed(128), BeadWords.BAD);
        CHECK.due("feed(0)", x.feed(0), 1);
        CHECK.due("feed(127)", x.feed(127), 2);
        for (int i = 3; i <= 300; i++) {
            CHECK.due("feed(32)", x.feed(32), i);
        }
        CHECK.due("feed(32) of 300", x.feed(32), BeadWords.FULL);
        CHECK.due("feed(128) of 300", x.feed(128), BeadWords.BAD);
        CHECK.due("count(1)", x.count(1), 300);
        CHECK.due("end(-1)", x.end(-1), BeadWords.BAD);
        CHECK.due("end(301)", x.end(301), BeadWords.BAD);
        CHECK.due("end(300)", x.end(300), 300);
        CHECK.due("end(2)", x.end(2), 300);
        CHECK.due("end(3)", x.end(3), BeadWords.BAD);
        CHECK.due("end(0)", x.end(0), 2);
        CHECK.due("end(0)", x.end(0), 0);
        Check.feed(x, "row ab;row");
        CHECK.due("end(7)", x.end(7), 10);
        CHECK.due("text()", x.text(), 1);
    }

    private static void textsThatAreTaken() {
        taken("", 0, 0, 0);
        taken("   ", 0, 0, 0);
        taken("fro;", 0, 0, 1);
        taken("row a;", 1, 1, 0);
        taken("  row   abcdef  ;  ", 1, 6, 0);
        taken("row ab;fro;row cd;", 2, 2, 1);
        taken("row abcdefabcdefabcd;", 1, 16, 0);
        taken("row a;".repeat(12), 12, 1, 0);
        taken("row a;".repeat(12) + " fro ; ", 12, 1, 1);
        CHECK.beads(CHECK.read("row abc;row fed;"), 1, "fed");
        CHECK.beads(CHECK.read("fro;row abc;row fed;"), 1, "fed");
    }

    private static void taken(String letters, int rows, int w, int mode) {
        BeadWords x = new BeadWords();
        Check.feed(x, letters);
        CHECK.due("text() of \"" + letters + "\"", x.text(), rows);
        CHECK.due("fault() of \"" + letters + "\"", x.fault(), 0);
        CHECK.due("rule(0)", x.rule(0), rows);
        CHECK.due("rule(1)", x.rule(1), w);
        CHECK.due("rule(2)", x.rule(2), mode);
        CHECK.due("count(1) behind a text", x.count(1), 0);
    }

    private static void faults() {
        fault("row a2;", 1, 5);
        fault(".", 1, 0);
        fault("  Row a;", 1, 2);
        fault("row a;\n", 1, 6);
        fault("row .;", 1, 4);
        fault("fro.;", 1, 3);
        fault("row a;" + (char) 127, 1, 6);
        fault("row a;" + (char) 0, 1, 6);
        fault(";", 2, 0);
        fault("row", 2, 3);
        fault("row  ", 2, 5);
        fault("row a", 2, 5);
        fault("row a  ", 2, 7);
        fault("row ;", 2, 4);
        fault("rowa;", 2, 0);
        fault("row a b;", 2, 6);
        fault("fro", 2, 3);
        fault("fro row a;", 2, 4);
        fault("fros;", 2, 0);
        fault("ro;", 2, 0);
        fault("frow;", 2, 0);
        fault("bow a;", 2, 0);
        fault("pro;", 2, 0);
        fault("z;", 2, 0);
        fault("{;", 1, 0);
        fault("`;", 1, 0);
        fault("row a;;", 2, 6);
        fault("row g;", 3, 4);
        fault("row row;", 3, 4);
        fault("row fro;", 3, 4);
        fault("row abcdefabcdefabcda;", 3, 4);
        fault("row ab;row a;", 3, 11);
        fault("row ab;row abc;", 3, 11);
        // The name is refused when it is taken, ahead of the byte behind it.
        fault("row g2;", 3, 4);
        fault("fro;fro;", 4, 4);
        fault("fro;row a; fro", 4, 11);
        fault("fro;fro.", 4, 4);
    }

    private static void faultsOfThirteenRows() {
        String twelve = "row a;".repeat(12);
        fault(twelve + "row a;", 4, 72);
        fault(twelve + "  row b;", 4, 74);
        fault(twelve + "row", 4, 72);
        fault(twelve + "rob", 2, 72);
    }

    private static void fault(String letters, int which, int place) {
        BeadWords x = CHECK.read("row abc;");
        Check.feed(x, letters);
        CHECK.due("text() of \"" + letters + "\"", x.text(), -10 - place);
        CHECK.due("fault() of \"" + letters + "\"", x.fault(), which);
        CHECK.due("count(1) behind a fault", x.count(1), 0);
        CHECK.beads(x, 0, "abc");
        CHECK.due("text() of nothing", x.text(), 0);
        CHECK.due("fault() of nothing", x.fault(), 0);
    }

    private static void whatAFaultLeaves() {
        BeadWords x = CHECK.read("fro;row ab;row cd;");
        x.string(0);
        x.keep(1);
        x.tell(4);
        Check.feed(x, "row ab;row c;");
        CHECK.due("text()", x.text(), -21);
        CHECK.due("rule(0)", x.rule(0), 2);
        CHECK.due("rule(2)", x.rule(2), 1);
        CHECK.due("rule(8)", x.rule(8), 1);
        CHECK.due("rule(9)", x.rule(9), 1);
        CHECK.due("count(0)", x.count(0), 1);
        CHECK.beads(x, 1, "cd");
    }

    private static void whatATextEnds() {
        BeadWords x = CHECK.read("fro;row ab;row cd;");
        x.string(0);
        x.keep(0);
        x.keep(1);
        x.tell(4);
        x.sheet(0, 1, 5);
        Check.feed(x, "row a;");
        CHECK.due("text()", x.text(), 1);
        CHECK.due("rule(2)", x.rule(2), 0);
        CHECK.due("rule(8)", x.rule(8), 0);
        CHECK.due("rule(9)", x.rule(9), 1);
        CHECK.due("count(0)", x.count(0), 0);
        CHECK.due("count(2)", x.count(2), 5);
        CHECK.due("back(0)", x.back(0), BeadWords.STATE);
    }
}
