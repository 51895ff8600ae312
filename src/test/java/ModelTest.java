import java.util.Random;

/** Long runs of calls by a seed, each answer beside that of the model. */
public final class ModelTest {
    private static final int RUNS = 4000, CALLS = 512;
    private static final int[] EDGES = {-5, -4, -3, -2, -1, 5, 6, 7, 11, 12, 13, 15, 16, 17, 31, 32, 33, 39, 40, 41, 99,
        100, 127, 128, 255, 256, 300, 301, 65536, Integer.MAX_VALUE, Integer.MIN_VALUE};
    private static final String[] PIECES = {"row ", "row ", "row ", "fro;", "fro ;", ";", " ", "ab", "g", ".", "A", "rowab;",
        "row abcdefabcdefabcda;", "row", "fro"};
    private static final Check CHECK = new Check();

    private final BeadWords x = new BeadWords();
    private final Model model = new Model();
    private final Random random;
    private final String name;
    private int calls = 0;

    private ModelTest(int seed) {
        random = new Random(seed);
        name = "run " + seed;
    }

    public static void main(String[] args) {
        for (int seed = 0; seed < RUNS; seed++) {
            new ModelTest(seed).go();
        }
        CHECK.end();
    }

    private void go() {
        while (calls < CALLS) {
            switch (random.nextInt(12)) {
                case 0 -> letters(aText());
                case 1 -> aSlip();
                case 2 -> aStrand();
                case 3 -> aSheet();
                case 4 -> ask(24, random.nextInt(), 1 + random.nextInt(12), 1 + random.nextInt(16), 1 + random.nextInt(6));
                case 5 -> everything();
                default -> ask(random.nextInt(Face.NAMES.length), number(), number(), number(), number());
            }
        }
    }

    private int number() {
        return random.nextInt(6) == 0 ? EDGES[random.nextInt(EDGES.length)] : random.nextInt(random.nextBoolean() ? 4 : 14);
    }

    private void ask(int which, int a, int b, int c, int d) {
        if (calls < CALLS) {
            calls++;
            String call = name + ", call " + calls + ": " + Face.written(which, a, b, c, d);
            CHECK.due(call, Face.ask(x, which, a, b, c, d), model.call(which, a, b, c, d));
        }
    }

    private void letters(String text) {
        for (int i = 0; i < text.length(); i++) {
            ask(0, text.charAt(i), 0, 0, 0);
        }
        ask(2, 0, 0, 0, 0);
        ask(3, 0, 0, 0, 0);
    }

    private String aText() {
        StringBuilder text = new StringBuilder();
        int w = 1 + random.nextInt(5);
        int rows = random.nextInt(8) == 0 ? 11 + random.nextInt(4) : random.nextInt(6);
        for (int r = 0; r < rows; r++) {
            text.append(random.nextInt(3) == 0 ? " row  " : "row ").append(name(w)).append(';');
            if (random.nextInt(25) == 0) {
                text.append(PIECES[random.nextInt(PIECES.length)]);
            }
        }
        if (random.nextInt(4) == 0) {
            text.append("fro;");
        }
        if (random.nextInt(6) == 0) {
            text.setLength(random.nextInt(text.length() + 1));
        }
        return text.toString();
    }

    private String name(int w) {
        StringBuilder out = new StringBuilder();
        int k = random.nextInt(40) == 0 ? 7 : 1 + random.nextInt(6);
        for (int i = 0; i < (random.nextInt(60) == 0 ? w + 1 : w); i++) {
            out.append((char) ('a' + random.nextInt(k)));
        }
        return out.toString();
    }

    /** Words that often just tell a row of the width there is. */
    private void aSlip() {
        ask(11, 0, 0, 0, 0);
        int form = random.nextInt(6);
        int w = model.call(4, 1, 0, 0, 0);
        int beads = w == 0 ? 1 + random.nextInt(16) : form == 2 ? (w + 1) / 2 : w;
        ask(10, form, 0, 0, 0);
        if (form < 2) {
            ask(10, random.nextInt(12), 0, 0, 0);
        } else {
            if (form == 3) {
                int n = 2 + random.nextInt(4);
                ask(10, n, 0, 0, 0);
                beads = Math.max(1, beads / n);
            }
            while (beads > 0) {
                int n = 1 + random.nextInt(beads);
                ask(10, n, 0, 0, 0);
                ask(10, random.nextInt(30) == 0 ? 6 : random.nextInt(6), 0, 0, 0);
                beads -= n;
            }
        }
        ask(12, 0, 0, 0, 0);
        for (int i = 0; i < w; i++) {
            ask(13, i, 0, 0, 0);
        }
        ask(14, 0, 0, 0, 0);
    }

    /** The plan, now and then with a bead wrong, left out or doubled. */
    private void aStrand() {
        int from = model.call(4, 8, 0, 0, 0);
        int shift = 0;
        for (int i = 0; i < random.nextInt(40); i++) {
            int due = Math.max(0, model.call(17, Math.max(0, from + i + shift), 0, 0, 0));
            int slipUp = random.nextInt(30);
            shift += slipUp == 0 ? 1 : slipUp == 1 ? -1 : 0;
            ask(15, slipUp == 2 ? random.nextInt(6) : due, 0, 0, 0);
        }
        for (int what = 0; what <= 6; what++) {
            ask(18, what, 0, 0, 0);
        }
    }

    private void aSheet() {
        int k = random.nextInt(4);
        int lane = random.nextInt(3);
        int n = random.nextInt(12);
        ask(27, k, lane, n, 0);
        for (int i = 0; i < n; i++) {
            ask(28, k, i, random.nextInt(20) == 0 ? random.nextInt() : random.nextInt(6), 0);
        }
        ask(29, k, random.nextInt(5) == 0 ? random.nextInt(3) : lane, random.nextInt(4), random.nextInt(14));
        ask(30, 0, 0, 0, 0);
    }

    private void everything() {
        for (int what = 0; what <= 9; what++) {
            ask(4, what, 0, 0, 0);
        }
        int r = random.nextInt(12);
        for (int what = 0; what <= 5; what++) {
            ask(7, r, what, 0, 0);
            ask(8, r, what, 0, 0);
            ask(9, r, what, 0, 0);
        }
        for (int i = 0; i < 12; i++) {
            ask(17, i, 0, 0, 0);
        }
    }
}
