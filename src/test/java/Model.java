import java.util.ArrayList;
import java.util.HashSet;
import java.util.List;
import java.util.regex.Matcher;
import java.util.regex.Pattern;

/** The document once more, over texts and lists: rows are names of beads, a being colour 0. */
final class Model {
    private static final int BAD = -1, STATE = -2, FULL = -3, NONE = -4;
    private static final Pattern TOKEN = Pattern.compile(" *([a-z]+|.|$)", Pattern.DOTALL);

    private record Image(List<String> rows, int mode, String strand) { }

    private List<String> rows = new ArrayList<>();
    private int mode = 0;
    private String strand = "";
    private String tape = "";
    private List<Integer> slip = new ArrayList<>();
    private final Image[] images = new Image[2];
    private final Object[] sheets = new Object[4];
    private int fault = 0;
    private int torn = 0;

    /** The answer to a call by its number in the face. */
    int call(int which, int a, int b, int c, int d) {
        switch (which) {
            case 0: return feed(a);
            case 1: return end(a);
            case 2: return text();
            case 3: return fault;
            case 4: return rule(a);
            case 5: return bead(a, b);
            case 6: return many(a, b);
            case 7: return row(a, b);
            case 8: return !hasRow(a) || b < 0 || b > 4 ? BAD : words(a, b) == null ? NONE : words(a, b).size();
            case 9: return word(a, b);
            case 10: return tell(a);
            case 11: return tear();
            case 12: return spoken() == null ? NONE : spoken().length();
            case 13: return a < 0 ? BAD : spoken() == null || a >= spoken().length() ? NONE : spoken().charAt(a) - 'a';
            case 14: return add();
            case 15: return string(a);
            case 16: return off(a);
            case 17: return a < 0 ? BAD : a >= plan().length() ? NONE : plan().charAt(a) - 'a';
            case 18: return mistake(a);
            case 19: return paint(a, b, c);
            case 20: return dye(a, b);
            case 21: return change(a, b);
            case 22: return swap(a, b);
            case 23: return mode(a);
            case 24: return draw(a, b, c, d);
            case 25: return keep(a);
            case 26: return back(a);
            case 27: return sheet(a, b, c);
            case 28: return lay(a, b, c);
            case 29: return run(a, b, c, d);
            case 30: return torn;
            default: return count(a);
        }
    }

    static String[] drawn(int seed, int n, int w, int k) {
        long[] s = {seed};
        String[] out = new String[n];
        for (int r = 0; r < n; r++) {
            int way = got(s) % 4;
            if (way == 0 && r > 0) {
                out[r] = out[got(s) % r];
                continue;
            }
            int part = way == 1 ? got(s) % w + 1 : w;
            StringBuilder beads = new StringBuilder();
            for (int i = 0; i < part; i++) {
                beads.append((char) ('a' + got(s) % k));
            }
            out[r] = beads.toString().repeat(16).substring(0, w);
        }
        return out;
    }

    private static int got(long[] s) {
        s[0] = s[0] * 1103515245L + 12345L;
        return (int) (s[0] >> 16) & 0x7fff;
    }

    private static String reversed(String s) {
        return new StringBuilder(s).reverse().toString();
    }

    private static boolean colour(int v) {
        return v >= 0 && v <= 5;
    }

    private boolean hasRow(int r) {
        return r >= 0 && r < rows.size();
    }

    private int width() {
        return rows.isEmpty() ? 0 : rows.get(0).length();
    }

    private String line(int r) {
        return mode == 1 && r % 2 == 1 ? reversed(rows.get(r)) : rows.get(r);
    }

    private String plan() {
        StringBuilder all = new StringBuilder();
        for (int r = 0; r < rows.size(); r++) {
            all.append(line(r));
        }
        return all.toString();
    }

    private int feed(int c) {
        if (c < 0 || c > 127) return BAD;
        if (tape.length() == 300) return FULL;
        tape += (char) c;
        return tape.length();
    }

    private int end(int n) {
        int had = tape.length();
        if (n < 0 || n > had) return BAD;
        tape = tape.substring(0, n);
        return had;
    }

    private int text() {
        String all = tape;
        tape = "";
        List<String> read = new ArrayList<>();
        int fro = 0;
        String due = "line";
        Matcher m = TOKEN.matcher(all);
        while (m.find()) {
            String t = m.group(1);
            int at = m.start(1);
            boolean name = t.matches("[a-z]+");
            if (t.isEmpty()) {
                if (!due.equals("line")) return failed(2, at);
                break;
            }
            if (!name && !t.equals(";")) return failed(1, at);
            if (due.equals("line")) {
                if (!t.equals("row") && !t.equals("fro")) return failed(2, at);
                if (t.equals("row") && read.size() == 12 || t.equals("fro") && fro++ > 0) return failed(4, at);
                due = t.equals("row") ? "beads" : "sign";
            } else if (due.equals("beads")) {
                if (!name) return failed(2, at);
                boolean long_ = t.length() > 16 || !read.isEmpty() && read.get(0).length() != t.length();
                if (long_ || !t.matches("[a-f]+")) return failed(3, at);
                read.add(t);
                due = "sign";
            } else {
                if (name) return failed(2, at);
                due = "line";
            }
        }
        fault = 0;
        rows = read;
        mode = fro;
        strand = "";
        images[0] = null;
        images[1] = null;
        return rows.size();
    }

    private int failed(int which, int at) {
        fault = which;
        return -10 - at;
    }

    private static List<Integer> runs(String s) {
        List<Integer> out = new ArrayList<>();
        Matcher m = Pattern.compile("(.)\\1*").matcher(s);
        while (m.find()) {
            out.add(m.group().length());
            out.add(m.group().charAt(0) - 'a');
        }
        return out;
    }

    private static String part(String s) {
        Matcher m = Pattern.compile("(.+?)\\1*").matcher(s);
        return m.matches() ? m.group(1) : s;
    }

    private List<Integer> words(int r, int form) {
        String s = line(r);
        List<Integer> out = new ArrayList<>(List.of(form));
        if (form < 2) {
            for (int k = 0; k < r; k++) {
                if (s.equals(form == 0 ? line(k) : reversed(line(k)))) {
                    out.add(k);
                    return out;
                }
            }
            return null;
        }
        if (form == 2) {
            if (s.length() < 2 || !s.equals(reversed(s))) return null;
            out.addAll(runs(s.substring(0, s.length() - s.length() / 2)));
            return out;
        }
        if (form == 3) {
            if (part(s).equals(s)) return null;
            out.add(s.length() / part(s).length());
            out.addAll(runs(part(s)));
            return out;
        }
        out.addAll(runs(s));
        return out;
    }

    private List<Integer> words(int r) {
        List<Integer> best = null;
        for (int form = 0; form < 5; form++) {
            List<Integer> w = words(r, form);
            if (w != null && (best == null || w.size() < best.size())) best = w;
        }
        return best;
    }

    private int rule(int what) {
        int words = 0;
        int runs = 0;
        HashSet<String> lines = new HashSet<>();
        for (int r = 0; r < rows.size(); r++) {
            words += words(r).size();
            runs += runs(line(r)).size() / 2;
            lines.add(line(r));
        }
        int[] all = {rows.size(), width(), mode, plan().length(), words, lines.size(), runs,
            (int) plan().chars().distinct().count(), strand.length(), slip.size()};
        return what < 0 || what > 9 ? BAD : all[what];
    }

    private int bead(int r, int c) {
        return !hasRow(r) || c < 0 || c >= width() ? BAD : rows.get(r).charAt(c) - 'a';
    }

    private int many(int r, int k) {
        if (!hasRow(r) && r != NONE || !colour(k)) return BAD;
        return (int) (r == NONE ? plan() : rows.get(r)).chars().filter(v -> v == 'a' + k).count();
    }

    private int row(int r, int what) {
        if (!hasRow(r) || what < 0 || what > 5) return BAD;
        int like = 0;
        int first = -1;
        for (int s = rows.size() - 1; s >= 0; s--) {
            if (line(s).equals(line(r))) {
                like++;
                first = s;
            }
        }
        List<Integer> w = words(r);
        return new int[] {w.get(0), w.size(), runs(line(r)).size() / 2, first, like, part(line(r)).length()}[what];
    }

    private int word(int r, int i) {
        if (!hasRow(r) || i < 0) return BAD;
        return i < words(r).size() ? words(r).get(i) : NONE;
    }

    private int tell(int v) {
        if (v < 0 || v > 99) return BAD;
        if (slip.size() == 40) return FULL;
        slip.add(v);
        return slip.size();
    }

    private int tear() {
        int had = slip.size();
        slip.clear();
        return had;
    }

    /** The beads of runs from word i on; null if they are none. */
    private String beadsFrom(int i) {
        if (i >= slip.size() || (slip.size() - i) % 2 == 1) return null;
        String out = "";
        for (int j = i; j < slip.size(); j += 2) {
            int n = slip.get(j);
            if (n < 1 || n > 16 || !colour(slip.get(j + 1))) return null;
            out += String.valueOf((char) ('a' + slip.get(j + 1))).repeat(n);
        }
        return out;
    }

    private String spoken() {
        if (slip.isEmpty()) return null;
        int w = width();
        int form = slip.get(0);
        if (form < 2) {
            if (slip.size() != 2 || !hasRow(slip.get(1))) return null;
            String s = line(slip.get(1));
            return form == 0 ? s : reversed(s);
        }
        String s = beadsFrom(form == 3 ? 2 : 1);
        if (form > 4 || s == null) return null;
        if (form == 2) {
            if (w < 2 || s.length() != w - w / 2) return null;
            return s + reversed(s).substring(w % 2);
        }
        if (form == 3) {
            int n = slip.get(1);
            if (n < 2 || n > 16) return null;
            s = s.repeat(n);
        }
        return w == 0 ? s.length() <= 16 ? s : null : s.length() == w ? s : null;
    }

    private int add() {
        String s = spoken();
        if (s == null) return STATE;
        if (rows.size() == 12) return FULL;
        rows.add(mode == 1 && rows.size() % 2 == 1 ? reversed(s) : s);
        slip.clear();
        return rows.size();
    }

    private int string(int k) {
        if (!colour(k)) return BAD;
        if (strand.length() == plan().length()) return FULL;
        strand += (char) ('a' + k);
        return strand.length();
    }

    private int off(int n) {
        if (n < 0 || n > strand.length()) return BAD;
        strand = strand.substring(0, strand.length() - n);
        return strand.length();
    }

    private int alike(int from, int shift) {
        int sum = 0;
        for (int j = from; j < strand.length() && j + shift < plan().length(); j++) {
            sum += strand.charAt(j) == plan().charAt(j + shift) ? 1 : 0;
        }
        return sum;
    }

    private int mistake(int what) {
        if (what < 0 || what > 6) return BAD;
        int i = 0;
        while (i < strand.length() && strand.charAt(i) == plan().charAt(i)) i++;
        if (i == strand.length()) return NONE;
        int wrong = alike(i + 1, 0);
        int left = alike(i, 1);
        int doubled = alike(i + 1, -1);
        int most = Math.max(wrong, Math.max(left, doubled));
        int kind = most == wrong ? 0 : most == left ? 1 : 2;
        return new int[] {i, i / width(), i % width(), plan().charAt(i) - 'a', kind, most, strand.length() - i}[what];
    }

    private int paint(int r, int c, int k) {
        if (bead(r, c) == BAD || !colour(k)) return BAD;
        int was = bead(r, c);
        StringBuilder s = new StringBuilder(rows.get(r));
        s.setCharAt(c, (char) ('a' + k));
        rows.set(r, s.toString());
        strand = "";
        return was;
    }

    private int dye(int from, int to) {
        if (!colour(from) || !colour(to)) return BAD;
        int n = many(NONE, from);
        rows.replaceAll(s -> s.replace((char) ('a' + from), (char) ('a' + to)));
        strand = "";
        return n;
    }

    private int change(int r, int what) {
        if (!hasRow(r) || what < 0 || what > 3) return BAD;
        if (what == 3 && rows.size() == 12) return FULL;
        String s = rows.get(r);
        if (what == 0) rows.set(r, reversed(s));
        if (what == 1) rows.set(r, s.charAt(s.length() - 1) + s.substring(0, s.length() - 1));
        if (what == 2) rows.remove(r);
        if (what == 3) rows.add(r, s);
        strand = "";
        return rows.size();
    }

    private int swap(int r, int s) {
        if (!hasRow(r) || !hasRow(s)) return BAD;
        java.util.Collections.swap(rows, r, s);
        strand = "";
        return rows.get(r).equals(rows.get(s)) ? 1 : 0;
    }

    private int mode(int v) {
        if (v != 0 && v != 1) return BAD;
        int was = mode;
        mode = v;
        strand = "";
        return was;
    }

    private int draw(int seed, int n, int w, int k) {
        if (n < 1 || n > 12 || w < 1 || w > 16 || k < 1 || k > 6) return BAD;
        rows = new ArrayList<>(List.of(drawn(seed, n, w, k)));
        strand = "";
        return n * w;
    }

    private int keep(int k) {
        if (k != 0 && k != 1) return BAD;
        int was = images[k] == null ? 0 : 1;
        images[k] = new Image(new ArrayList<>(rows), mode, strand);
        return was;
    }

    private int back(int k) {
        if (k != 0 && k != 1) return BAD;
        if (images[k] == null) return STATE;
        rows = new ArrayList<>(images[k].rows());
        mode = images[k].mode();
        strand = images[k].strand();
        return rows.size();
    }

    private int sheet(int k, int lane, int n) {
        if (k < 0 || k > 3 || lane < 0 || lane > 2 || n > 32) return BAD;
        if (n < 0) return -14;
        sheets[k] = lane == 0 ? new byte[n] : lane == 1 ? new short[n] : new int[n];
        return 1;
    }

    // Here, other than in the class, the machine itself may find the faults.
    private int lay(int k, int i, int v) {
        if (k < 0 || k > 3) return BAD;
        try {
            Object s = sheets[k];
            if (s instanceof byte[] cells) cells[i] = (byte) v;
            else if (s instanceof short[] cells) cells[i] = (short) v;
            else ((int[]) s)[i] = v;
            return 1;
        } catch (NullPointerException e) {
            return -11;
        } catch (ArrayIndexOutOfBoundsException e) {
            return -13;
        }
    }

    private int run(int k, int lane, int f, int n) {
        if (k < 0 || k > 3 || lane < 0 || lane > 2 || n < 0 || n > 32) return BAD;
        torn = 0;
        int i = 0;
        try {
            for (; i < n; i++) {
                Object s = sheets[k];
                int at = f + i;
                int v = lane == 0 ? ((byte[]) s)[at] : lane == 1 ? ((short[]) s)[at] : ((int[]) s)[at];
                if (string(v) < 0) break;
            }
        } catch (NullPointerException e) {
            torn = 1;
        } catch (ClassCastException e) {
            torn = 2;
        } catch (ArrayIndexOutOfBoundsException e) {
            torn = 3;
        }
        return i;
    }

    private int count(int what) {
        if (what < 0 || what > 2) return BAD;
        if (what == 0) return (images[0] == null ? 0 : 1) + (images[1] == null ? 0 : 1);
        if (what == 1) return tape.length();
        return sheets[0] == null ? NONE : java.lang.reflect.Array.getLength(sheets[0]);
    }
}
