/** The calls of the document's face by their numbers there, or by their names. */
final class Face {
    static final String[] NAMES = {"feed", "end", "text", "fault", "rule", "bead", "many", "row", "words", "word", "tell",
        "tear", "spoken", "said", "add", "string", "off", "plan", "mistake", "paint", "dye", "change", "swap", "mode",
        "draw", "keep", "back", "sheet", "lay", "run", "torn", "count"};
    /** How many numbers each call is given. */
    static final int[] TAKES = {1, 1, 0, 0, 1, 2, 2, 2, 2, 2, 1, 0, 0, 1, 0, 1, 1, 1, 1, 3, 2, 2, 2, 1, 4, 1, 1, 3, 3, 4,
        0, 1};

    private Face() {
    }

    static int numberOf(String name) {
        for (int which = 0; which < NAMES.length; which++) {
            if (NAMES[which].equals(name)) {
                return which;
            }
        }
        throw new IllegalArgumentException(name + " is no call");
    }

    /** A call as it is written; of the numbers just those that it is given. */
    static String written(int which, int... given) {
        StringBuilder out = new StringBuilder(NAMES[which]).append('(');
        for (int i = 0; i < TAKES[which]; i++) {
            out.append(i == 0 ? "" : ", ").append(given[i]);
        }
        return out.append(')').toString();
    }

    static int ask(BeadWords x, int which, int a, int b, int c, int d) {
        return switch (which) {
            case 0 -> x.feed(a);
            case 1 -> x.end(a);
            case 2 -> x.text();
            case 3 -> x.fault();
            case 4 -> x.rule(a);
            case 5 -> x.bead(a, b);
            case 6 -> x.many(a, b);
            case 7 -> x.row(a, b);
            case 8 -> x.words(a, b);
            case 9 -> x.word(a, b);
            case 10 -> x.tell(a);
            case 11 -> x.tear();
            case 12 -> x.spoken();
            case 13 -> x.said(a);
            case 14 -> x.add();
            case 15 -> x.string(a);
            case 16 -> x.off(a);
            case 17 -> x.plan(a);
            case 18 -> x.mistake(a);
            case 19 -> x.paint(a, b, c);
            case 20 -> x.dye(a, b);
            case 21 -> x.change(a, b);
            case 22 -> x.swap(a, b);
            case 23 -> x.mode(a);
            case 24 -> x.draw(a, b, c, d);
            case 25 -> x.keep(a);
            case 26 -> x.back(a);
            case 27 -> x.sheet(a, b, c);
            case 28 -> x.lay(a, b, c);
            case 29 -> x.run(a, b, c, d);
            case 30 -> x.torn();
            default -> x.count(a);
        };
    }
}
