import java.util.Arrays;

/** What the tests of boundaries share: states to ask in, and that a refused call changes nothing. */
final class Edges {
    static final int BAD = BeadWords.BAD, STATE = BeadWords.STATE, FULL = BeadWords.FULL, NONE = BeadWords.NONE;
    static final int MIN = Integer.MIN_VALUE, MAX = Integer.MAX_VALUE;
    private static final int MOST_CALLS = 512;

    /** A new object. */
    static final Script NEW = new Script("a new object");
    /** Some of everything: a mistake, one image, sheets of each lane and one of nothing, faults told. */
    static final Script SOME = some();
    /** 12 rows of 16 beads, all strung, both images, a slip that speaks. */
    static final Script FULL_PICTURE = fullPicture();
    /** 300 bytes, a text that is taken. */
    static final Script FULL_TAPE = new Script("a full tape").text("row ab;").feed("row cd;" + " ".repeat(293));
    /** 40 words, which tell nothing. */
    static final Script FULL_SLIP = new Script("a full slip").text("row ab;").slip(fortyWords());
    /** One row of one bead. */
    static final Script ONE_BEAD = new Script("one bead").text("row f;").strand("f");
    static final Script[] STATES = {NEW, SOME, FULL_PICTURE, FULL_TAPE, FULL_SLIP, ONE_BEAD};

    private static final Script[] PROBES = new Script[13];
    private final Check check = new Check();

    static {
        for (int p = 0; p < PROBES.length; p++) {
            PROBES[p] = probe(p);
        }
    }

    private static Script some() {
        return new Script("some of everything").text("fro;row aabc;row cbaa;row abba;").strand("aab").then("keep", 0)
            .strand("bb").then("sheet", 0, 0, 5).then("lay", 0, 0, 1).then("lay", 0, 1, 200).then("sheet", 1, 1, 3)
            .then("lay", 1, 2, 4).then("sheet", 2, 2, 0).then("run", 2, 2, 0, 1).text("row a2;").slip(4, 2, 0, 1, 1)
            .feed("row ab;ro");
    }

    private static Script fullPicture() {
        Script full = new Script("a full picture").then("draw", 3, 12, 16, 6).then("sheet", 0, 0, 32).then("keep", 1);
        for (int i = 0; i < 6; i++) {
            full = full.then("run", 0, 0, 0, 32);
        }
        return full.then("keep", 0).slip(0, 11).feed("fro;");
    }

    private static int[] fortyWords() {
        int[] words = new int[40];
        Arrays.fill(words, 1);
        return words;
    }

    void end() {
        check.end();
    }

    Check check() {
        return check;
    }

    void due(String what, long got, long want) {
        check.due(what, got, want);
    }

    /** The answer of one more call. */
    void answers(Script state, int want, String call, int... given) {
        int[] got = state.then(call, given).answers(new BeadWords());
        check.due(written(state, call, given), got[got.length - 1], want);
    }

    /** The answer of one more call, and that all is as it was ahead of it. */
    void changesNothing(Script state, int want, String call, int... given) {
        answers(state, want, call, given);
        same(written(state, call, given), state, state.then(call, given));
    }

    /** The same of a call that is refused. */
    void refused(Script state, int want, String call, int... given) {
        if (want >= 0) {
            throw new IllegalArgumentException(want + " refuses nothing");
        }
        changesNothing(state, want, call, given);
    }

    /** The same of each of these numbers. */
    void refusedEach(Script state, int want, String call, int... numbers) {
        for (int v : numbers) {
            refused(state, want, call, v);
        }
    }

    private static String written(Script state, String call, int... given) {
        return state.name() + ": " + Face.written(Face.numberOf(call), given);
    }

    /** That two scripts lead to the same state, as far as calls can show it. */
    void same(String what, Script one, Script other) {
        for (int p = 0; p < PROBES.length; p++) {
            alike(what, p, shown(other, PROBES[p]), shown(one, PROBES[p]));
        }
    }

    /** That a script leads where the model says, as far as calls can show it. */
    void asModelled(String what, Script script) {
        for (int p = 0; p < PROBES.length; p++) {
            alike(what, p, shown(script, PROBES[p]), PROBES[p].answers(script.modelled()));
        }
    }

    private void alike(String what, int p, int[] got, int[] want) {
        for (int i = 0; i < want.length; i++) {
            check.due(what + " and then, by probe " + p + ", " + PROBES[p].written(i), got[i], want[i]);
        }
    }

    /** That an object is as the state that it was asked in, by one short probe. */
    void leftAlone(String what, Script state, BeadWords x) {
        int[] want = shown(state, PROBES[0]);
        int[] got = PROBES[0].answers(x);
        check.due(what + " changed something", Arrays.equals(got, want) ? 0 : 1, 0);
    }

    private static int[] shown(Script state, Script probe) {
        if (state.length() + probe.length() > MOST_CALLS) {
            throw new IllegalStateException(state.name() + " has too many calls for a probe");
        }
        return probe.answers(state.made());
    }

    /** Calls that show a part of the state; some end another part of it, so each is asked of an object of its own. */
    private static Script probe(int p) {
        Script probe = new Script("probe " + p);
        switch (p) {
            case 0:
                return probe.each("rule", upTo(9)).then("fault").then("torn").each("count", upTo(2)).each("mistake", upTo(6))
                    .then("spoken").each("said", upTo(16)).each("plan", 0, 1, 2, 3, 191, 192);
            case 1:
                return beads(probe, 0, 6);
            case 2:
                return beads(probe, 6, 12);
            case 3:
                return rows(probe);
            case 4:
                return strand(probe);
            case 5:
                return beads(probe.then("text").then("fault").each("rule", upTo(3)), 0, 2);
            case 6:
                // The slip with a run more, and one word more.
                return probe.each("tell", 1, 0).then("spoken").each("said", upTo(16)).then("tell", 0).then("spoken").then("tear");
            case 7:
            case 8:
                return beads(probe.then("back", p - 7).each("rule", upTo(8)).each("mistake", upTo(6)), 0, 5);
            default:
                return sheet(probe, p - 9);
        }
    }

    /** The numbers 0 to n. */
    static int[] upTo(int n) {
        int[] out = new int[n + 1];
        for (int i = 0; i <= n; i++) {
            out[i] = i;
        }
        return out;
    }

    private static Script beads(Script probe, int from, int to) {
        Script out = probe;
        for (int r = from; r < to; r++) {
            for (int c = 0; c < 16; c++) {
                out = out.then("bead", r, c);
            }
        }
        return out;
    }

    private static Script rows(Script probe) {
        Script out = probe;
        for (int r = 0; r < 12; r++) {
            for (int what = 0; what <= 5; what++) {
                out = out.then("row", r, what);
            }
        }
        return out;
    }

    /** The thread, shorter and shorter, with its mistake. */
    private static Script strand(Script probe) {
        Script out = probe;
        for (int i = 0; i < 8; i++) {
            out = out.then("off", 1).each("mistake", upTo(6));
        }
        return out;
    }

    /** A sheet's cells, by each lane; the colours they are show as mistakes beside a picture of 0 alone. */
    private static Script sheet(Script probe, int k) {
        Script out = probe.then("draw", 1, 12, 16, 1);
        for (int lane = 0; lane <= 2; lane++) {
            for (int i = 0; i <= 32; i++) {
                out = out.then("run", k, lane, i, 1);
            }
            out = out.then("torn").then("mistake", 0).then("rule", 8);
        }
        return out;
    }
}
