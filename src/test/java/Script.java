import java.util.ArrayList;
import java.util.List;

/** Calls that lead to a state; each object that is made by them is a new one. */
final class Script {
    private static final int MOST_CALLS = 512;
    private final String name;
    private final List<int[]> calls;

    Script(String name) {
        this(name, new ArrayList<>());
    }

    private Script(String name, List<int[]> calls) {
        this.name = name;
        this.calls = calls;
    }

    String name() {
        return name;
    }

    int length() {
        return calls.size();
    }

    /** The same calls and one more; this script stays as it is. */
    Script then(String call, int... given) {
        Script more = new Script(name, new ArrayList<>(calls));
        more.put(call, given);
        return more;
    }

    /** One more for each number. */
    Script each(String call, int... numbers) {
        Script more = new Script(name, new ArrayList<>(calls));
        for (int v : numbers) {
            more.put(call, v);
        }
        return more;
    }

    Script feed(String letters) {
        return each("feed", letters.chars().toArray());
    }

    /** These letters alone on the tape, read as a text. */
    Script text(String letters) {
        return then("end", 0).feed(letters).then("text");
    }

    /** These words alone on the slip. */
    Script slip(int... words) {
        return then("tear").each("tell", words);
    }

    /** Beads more on the thread, a being colour 0. */
    Script strand(String beads) {
        return each("string", beads.chars().map(v -> v - 'a').toArray());
    }

    Script named(String other) {
        return new Script(other, calls);
    }

    private void put(String call, int... given) {
        int[] all = new int[5];
        all[0] = Face.numberOf(call);
        System.arraycopy(given, 0, all, 1, given.length);
        if (given.length != Face.TAKES[all[0]]) {
            throw new IllegalArgumentException(call + " is not given " + given.length + " numbers");
        }
        calls.add(all);
        // Nothing is promised behind the 512th call, so no test may rest on it.
        if (calls.size() > MOST_CALLS) {
            throw new IllegalStateException(name + " has too many calls");
        }
    }

    BeadWords made() {
        BeadWords x = new BeadWords();
        answers(x);
        return x;
    }

    /** What the calls of the script answer, one behind another. */
    int[] answers(BeadWords x) {
        int[] out = new int[calls.size()];
        for (int i = 0; i < out.length; i++) {
            int[] c = calls.get(i);
            out[i] = Face.ask(x, c[0], c[1], c[2], c[3], c[4]);
        }
        return out;
    }

    Model modelled() {
        Model model = new Model();
        answers(model);
        return model;
    }

    /** What the model answers to them. */
    int[] answers(Model model) {
        int[] out = new int[calls.size()];
        for (int i = 0; i < out.length; i++) {
            int[] c = calls.get(i);
            out[i] = model.call(c[0], c[1], c[2], c[3], c[4]);
        }
        return out;
    }

    /** Call i as it is written. */
    String written(int i) {
        int[] c = calls.get(i);
        return Face.written(c[0], c[1], c[2], c[3], c[4]);
    }
}
