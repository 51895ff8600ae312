/** What each call leaves behind, as later calls show it: taken or refused, in each state, all is as the model has it. */
public final class LeavesTest {
    private static final Edges EDGES = new Edges();
    private static final String[] ASKING = {"fault", "spoken", "torn"};

    private static final Script[] STATES = {
        Edges.NEW, Edges.SOME, Edges.FULL_PICTURE, Edges.FULL_TAPE, Edges.FULL_SLIP, Edges.ONE_BEAD,
        new Script("to and fro").text("fro;row abc;row abd;row bbc;row cba;").strand("abcdbc").then("keep", 1).strand("a")
            .then("sheet", 3, 1, 4).then("lay", 3, 0, 2).slip(2, 1, 5, 1, 4).feed("row aa;row bf;"),
        new Script("no rows, to and fro").text("fro;").then("sheet", 0, 2, 3).then("run", 0, 2, 0, 1).slip(3, 2, 1, 4, 1, 1),
        new Script("two images").text("row aabaab;row abbaab;").then("keep", 0).strand("aaba").then("keep", 1).then("mode", 1)
            .strand("aabaaba").slip(1, 1).feed("fro;row f;"),
    };

    public static void main(String[] args) {
        for (Script state : STATES) {
            text(state);
            picture(state);
            slip(state);
            thread(state);
            hand(state);
            imagesAndSheets(state);
        }
        EDGES.end();
    }

    private static void leaves(Script state, String call, int... given) {
        EDGES.asModelled(state.name() + ": " + Face.written(Face.numberOf(call), given), state.then(call, given));
    }

    private static void leavesEach(Script state, String call, int... numbers) {
        for (int v : numbers) {
            leaves(state, call, v);
        }
    }

    private static void text(Script state) {
        leavesEach(state, "feed", -1, 0, ' ', ';', 'a', 127, 128);
        leavesEach(state, "end", -1, 0, 2, 7, 299, 300, 301);
        leaves(state, "text");
        for (String fed : new String[] {"", "row;", "fro;fro;", "row abcd", ".", "row g;", "row fedcba;fro;row abcdef;"}) {
            Script read = state.then("end", 0).feed(fed).then("text");
            EDGES.asModelled(state.name() + ": text() of \"" + fed + "\"", read);
        }
    }

    /** Calls that ask leave nothing behind. */
    private static void picture(Script state) {
        for (String call : ASKING) {
            leaves(state, call);
        }
        for (int what = 0; what <= 9; what++) {
            leaves(state, "rule", what);
        }
        leaves(state, "bead", 0, 0);
        leaves(state, "many", -4, 1);
        leaves(state, "row", 1, 0);
        leaves(state, "word", 1, 1);
        for (int form = 0; form <= 4; form++) {
            leaves(state, "words", 1, form);
        }
    }

    private static void slip(Script state) {
        leavesEach(state, "tell", -1, 0, 1, 4, 99, 100);
        leaves(state, "tear");
        leavesEach(state, "said", 0, 15);
        leaves(state, "add");
        int[][] told = {{0, 0}, {1, 1}, {2, 1, 3}, {2, 1, 0, 1, 4}, {3, 2, 1, 5}, {3, 3, 1, 0, 1, 1}, {4, 1, 2}, {4, 2, 1, 1, 5},
            {4, 3, 0, 3, 2}};
        for (int[] words : told) {
            leaves(state.slip(words), "add");
        }
    }

    private static void thread(Script state) {
        leavesEach(state, "string", -1, 0, 1, 5, 6);
        leavesEach(state, "off", -1, 0, 1, 3, 192, 193);
        leavesEach(state, "plan", 0, 5);
        for (int what = 0; what <= 6; what++) {
            leaves(state, "mistake", what);
        }
    }

    private static void hand(Script state) {
        leaves(state, "paint", 0, 0, 0);
        leaves(state, "paint", 1, 2, 5);
        leaves(state, "paint", 11, 15, 3);
        leaves(state, "paint", 0, 0, 6);
        leaves(state, "dye", 0, 1);
        leaves(state, "dye", 1, 5);
        leaves(state, "dye", 2, 2);
        leaves(state, "dye", 0, 6);
        for (int what = 0; what <= 4; what++) {
            leaves(state, "change", 0, what);
            leaves(state, "change", 1, what);
            leaves(state, "change", 11, what);
        }
        leaves(state, "swap", 0, 1);
        leaves(state, "swap", 2, 0);
        leaves(state, "swap", 1, 1);
        leaves(state, "swap", 0, 12);
        leavesEach(state, "mode", -1, 0, 1, 2);
        leaves(state, "draw", 7, 12, 16, 6);
        leaves(state, "draw", -9, 3, 5, 2);
        leaves(state, "draw", 1, 1, 1, 1);
        leaves(state, "draw", 1, 0, 1, 1);
    }

    private static void imagesAndSheets(Script state) {
        leavesEach(state, "keep", -1, 0, 1, 2);
        leavesEach(state, "back", -1, 0, 1, 2);
        // What is kept must not go on with the picture, nor the picture with what is kept.
        EDGES.asModelled(state.name() + ": changed behind keep", state.then("keep", 0).then("paint", 0, 0, 4).then("dye", 1, 3));
        EDGES.asModelled(state.name() + ": changed behind back", state.then("keep", 1).then("back", 1).then("change", 0, 2));
        for (int k = -1; k <= 4; k++) {
            leaves(state, "sheet", k, 1, 5);
            leaves(state, "lay", k, 0, 5);
            leaves(state, "lay", k, 2, 65537);
            leaves(state, "run", k, 0, 0, 4);
            leaves(state, "run", k, 2, 1, 1);
            leaves(state, "run", k, 1, 0, 0);
        }
        leaves(state, "sheet", 0, 0, -1);
        leaves(state, "sheet", 0, 3, 1);
        leaves(state, "sheet", 0, 0, 33);
        leavesEach(state, "count", 0, 1, 2, 3);
    }
}
