/** "Any int may be given as any argument": each call, in each state, by numbers at and about every bound; none throws. */
public final class AnyIntTest {
    private static final int MIN = Edges.MIN, MAX = Edges.MAX;
    /** For calls of one number, of two, of three, of four: the more numbers, the fewer of each. */
    private static final int[][] GIVEN = {
        {MIN, MIN + 1, -65536, -128, -11, -5, -4, -3, -2, -1, 0, 1, 2, 3, 4, 5, 6, 7, 8, 9, 10, 11, 12, 13, 15, 16, 17, 31,
            32, 33, 39, 40, 41, 99, 100, 127, 128, 191, 192, 193, 299, 300, 301, 65536, MAX - 1, MAX},
        {MIN, -5, -4, -3, -1, 0, 1, 2, 3, 4, 5, 6, 11, 12, 13, 15, 16, 17, 40, MAX - 1, MAX},
        {MIN, -4, -1, 0, 2, 3, 4, 5, 6, 12, 16, 32, 33, MAX},
        {MIN, -1, 0, 1, 2, 3, 5, 13, 32, 33, MAX}};
    private static final Edges EDGES = new Edges();

    public static void main(String[] args) {
        for (Script state : Edges.STATES) {
            for (int which = 0; which < Face.NAMES.length; which++) {
                askAll(state, which, new int[4], 0);
            }
        }
        EDGES.end();
    }

    /** Fills the numbers from the i-th on in every way, and asks. */
    private static void askAll(Script state, int which, int[] given, int i) {
        int takes = Face.TAKES[which];
        if (i == takes) {
            ask(state, which, given);
            return;
        }
        for (int v : GIVEN[takes - 1]) {
            given[i] = v;
            askAll(state, which, given, i + 1);
        }
    }

    private static void ask(Script state, int which, int[] given) {
        String call = state.name() + ": " + Face.written(which, given);
        int want = state.modelled().call(which, given[0], given[1], given[2], given[3]);
        BeadWords x = state.made();
        try {
            EDGES.due(call, Face.ask(x, which, given[0], given[1], given[2], given[3]), want);
            if (want < 0 && which != Face.numberOf("text")) {
                EDGES.leftAlone(call, state, x);
            }
        } catch (RuntimeException e) {
            EDGES.due(call + " threw " + e, 1, 0);
        }
    }
}
