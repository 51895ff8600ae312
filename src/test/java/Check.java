/** Gathers answers that are not the ones due; the tests share it. */
final class Check {
    private int asked = 0;
    private int wrong = 0;

    void due(String call, long got, long want) {
        asked++;
        if (got != want) {
            wrong++;
            System.out.println(call + " answered " + got + ", due is " + want);
        }
    }

    /** Feeds a text's letters to the tape. */
    static void feed(BeadWords x, String letters) {
        for (int i = 0; i < letters.length(); i++) {
            x.feed(letters.charAt(i));
        }
    }

    /** A new object that has read the text, which must be without a fault. */
    BeadWords read(String letters) {
        BeadWords x = new BeadWords();
        feed(x, letters);
        x.text();
        due("fault() of \"" + letters + "\"", x.fault(), 0);
        return x;
    }

    /** Puts a slip of just these words in place of what there was. */
    static void slip(BeadWords x, int... words) {
        x.tear();
        for (int v : words) {
            x.tell(v);
        }
    }

    /** Strings the beads of a name, a being colour 0. */
    static void strand(BeadWords x, String beads) {
        for (int i = 0; i < beads.length(); i++) {
            x.string(beads.charAt(i) - 'a');
        }
    }

    /** Every bead of a row, from the left. */
    void beads(BeadWords x, int r, String want) {
        due("W for row " + r, x.rule(1), want.length());
        for (int c = 0; c < want.length(); c++) {
            due("bead(" + r + ", " + c + ") of " + want, x.bead(r, c), want.charAt(c) - 'a');
        }
        due("bead(" + r + ", " + want.length() + ")", x.bead(r, want.length()), BeadWords.BAD);
    }

    /** Every word of a row by its form. */
    void told(BeadWords x, int r, int... want) {
        due("row(" + r + ", 0)", x.row(r, 0), want[0]);
        due("row(" + r + ", 1)", x.row(r, 1), want.length);
        for (int i = 0; i < want.length; i++) {
            due("word(" + r + ", " + i + ")", x.word(r, i), want[i]);
        }
        due("word(" + r + ", " + want.length + ")", x.word(r, want.length), BeadWords.NONE);
    }

    /** The whole line that is spoken; an empty one if nothing is. */
    void spoken(BeadWords x, String want) {
        due("spoken() of " + want, x.spoken(), want.isEmpty() ? BeadWords.NONE : want.length());
        for (int i = 0; i < want.length(); i++) {
            due("said(" + i + ") of " + want, x.said(i), want.charAt(i) - 'a');
        }
        due("said(" + want.length() + ")", x.said(want.length()), BeadWords.NONE);
    }

    /** The whole plan. */
    void plan(BeadWords x, String want) {
        for (int i = 0; i < want.length(); i++) {
            due("plan(" + i + ") of " + want, x.plan(i), want.charAt(i) - 'a');
        }
        due("plan(" + want.length() + ")", x.plan(want.length()), BeadWords.NONE);
    }

    /** mistake(0) to mistake(6), in that order. */
    void mistake(BeadWords x, int... want) {
        for (int what = 0; what < want.length; what++) {
            due("mistake(" + what + ")", x.mistake(what), want[what]);
        }
    }

    void end() {
        System.out.println(wrong == 0 ? asked + " answers are as due" : wrong + " answers are not as due");
        if (wrong != 0) {
            System.exit(1);
        }
    }
}
