import java.util.ArrayList;
import java.util.Arrays;
import java.util.HashMap;
import java.util.HashSet;
import java.util.LinkedHashMap;
import java.util.List;
import java.util.Map;
import java.util.Set;

/** The document once more, in the slowest and plainest way, with all of Java; ModelTest compares the class with it. */
final class PlainModel {
    private static final class World implements Cloneable {
        int banks = 2, stone = 3, crossings = 0;
        int[] heap = new int[4];
        List<int[]> bridges = new ArrayList<>();
        List<int[]> people = new ArrayList<>();

        World copy() {
            World w = new World();
            w.banks = banks;
            w.stone = stone;
            w.crossings = crossings;
            w.heap = heap.clone();
            for (int[] b : bridges) w.bridges.add(b.clone());
            for (int[] p : people) w.people.add(p.clone());
            return w;
        }
    }

    private static final class Fault extends Exception {
        private static final long serialVersionUID = 1L;
        final int what, place;

        Fault(int what, int place) {
            this.what = what;
            this.place = place;
        }
    }

    private static final class Token {
        String s;
        int place;
    }

    private World w = new World();
    private String tape = "";
    private int fault = 0, torn = 0;
    private List<int[]> day = new ArrayList<>();
    private final World[] images = new World[2];
    private final Object[] sheets = new Object[4];

    // reading
    private String t;
    private int pos;

    int feed(long v) {
        if (tape.length() + 8 > 320) return -3;
        for (int i = 7; i >= 0; i--) tape += (char) (v >> 8 * i & 255);
        return tape.length();
    }

    int end(int n) {
        if (n < 0 || n > tape.length()) return -1;
        int had = tape.length();
        tape = tape.substring(0, n);
        return had;
    }

    int text() {
        t = tape;
        tape = "";
        pos = 0;
        World v = new World();
        List<int[]> meets = new ArrayList<>();
        Set<String> once = new HashSet<>();
        int lines = 0;
        try {
            for (Token name = token(); name.s != null; name = token()) {
                line(name, v, meets, once);
                if (!";".equals(expect(token()).s)) throw new Fault(2, last.place);
                lines++;
            }
            lookAgain(v, meets);
        } catch (Fault f) {
            fault = f.what;
            return -10 - f.place;
        }
        fault = 0;
        w = v;
        day = meets;
        images[0] = null;
        images[1] = null;
        return lines;
    }

    private Token last;

    private Token expect(Token k) throws Fault {
        last = k;
        if (k.s == null) throw new Fault(2, k.place);
        return k;
    }

    private Token token() throws Fault {
        while (pos < t.length() && t.charAt(pos) == 32) pos++;
        Token k = new Token();
        k.place = pos;
        if (pos == t.length()) return k;
        String rest = t.substring(pos);
        String kind = rest.matches("(?s)[a-z].*") ? "[a-z]" : rest.matches("(?s)[0-9].*") ? "[0-9]" : rest.startsWith(";") ? ";" : null;
        if (kind == null) throw new Fault(1, pos);
        int n = 1;
        while (kind.length() > 1 && n < rest.length() && rest.substring(n, n + 1).matches("(?s)" + kind)) n++;
        if (kind.equals("[0-9]") && n > 2) throw new Fault(1, pos);
        k.s = rest.substring(0, n);
        pos += n;
        return k;
    }

    private int number(int lo, int hi) throws Fault {
        Token k = expect(token());
        if (!k.s.matches("[0-9]+")) throw new Fault(2, k.place);
        int v = Integer.parseInt(k.s);
        if (v < lo || v > hi) throw new Fault(3, k.place);
        return v;
    }

    private void line(Token name, World v, List<int[]> meets, Set<String> once) throws Fault {
        switch (name.s) {
            case "banks":
            case "stone":
                if (!once.add(name.s)) throw new Fault(4, name.place);
                if (name.s.equals("banks")) v.banks = number(2, 4);
                else v.stone = number(1, 9);
                break;
            case "heap": {
                int bank = number(0, 3);
                if (!once.add("heap" + bank)) throw new Fault(4, last.place);
                v.heap[bank] = number(1, 20);
                break;
            }
            case "bridge": {
                if (v.bridges.size() == 4) throw new Fault(5, name.place);
                int a = number(0, 3), b = number(0, 3);
                if (a == b) throw new Fault(4, last.place);
                v.bridges.add(new int[] {a, b, number(0, 20)});
                break;
            }
            case "one": {
                if (v.people.size() == 6) throw new Fault(5, name.place);
                Token k = expect(token());
                int kind = Arrays.asList("plain", "exile", "carrier", "child", "stout").indexOf(k.s);
                if (kind < 0) throw new Fault(2, k.place);
                v.people.add(new int[] {kind, number(1, 99), number(0, 3), number(0, 3)});
                break;
            }
            case "meet": {
                if (meets.size() == 8) throw new Fault(5, name.place);
                int b = number(0, 3), p = number(0, 5), q = number(0, 5);
                if (p == q) throw new Fault(4, last.place);
                meets.add(new int[] {b, p, q});
                break;
            }
            default:
                throw new Fault(2, name.place);
        }
    }

    private void lookAgain(World v, List<int[]> meets) throws Fault {
        boolean missing = false;
        for (int bank = v.banks; bank < 4; bank++) missing |= v.heap[bank] != 0;
        for (int[] b : v.bridges) missing |= b[0] >= v.banks || b[1] >= v.banks;
        for (int[] p : v.people) missing |= p[2] >= v.banks || p[3] >= v.banks;
        for (int[] m : meets) missing |= m[0] >= v.bridges.size() || m[1] >= v.people.size() || m[2] >= v.people.size();
        if (missing) throw new Fault(6, t.length());
    }

    int fault() {
        return fault;
    }

    int rule(int what) {
        int[] row = {w.banks, w.bridges.size(), w.people.size(), w.stone, w.crossings};
        return what < 0 || what >= row.length ? -1 : row[what];
    }

    int bridge(int b, int what) {
        return noBridge(b) || what < 0 || what > 2 ? -1 : w.bridges.get(b)[what];
    }

    int one(int p, int what) {
        return noOne(p) || what < 0 || what > 3 ? -1 : w.people.get(p)[what];
    }

    int stones(int bank) {
        return noBank(bank) ? -1 : w.heap[bank];
    }

    private boolean noBank(int b) {
        return b < 0 || b >= w.banks;
    }

    private boolean noBridge(int b) {
        return b < 0 || b >= w.bridges.size();
    }

    private boolean noOne(int p) {
        return p < 0 || p >= w.people.size();
    }

    int heap(int bank, int v) {
        if (noBank(bank) || v < 0 || v > 20) return -1;
        int was = w.heap[bank];
        w.heap[bank] = v;
        return was;
    }

    int play(int b, int v) {
        if (noBridge(b) || v < 0 || v > 20) return -1;
        int was = w.bridges.get(b)[2];
        w.bridges.get(b)[2] = v;
        return was;
    }

    int weigh(int p, int v) {
        if (noOne(p) || v < 1 || v > 99) return -1;
        int was = w.people.get(p)[1];
        w.people.get(p)[1] = v;
        return was;
    }

    int send(int p, int bank, int goal) {
        if (noOne(p) || noBank(bank) || noBank(goal)) return -1;
        int was = w.people.get(p)[2];
        w.people.get(p)[2] = bank;
        w.people.get(p)[3] = goal;
        return was;
    }

    int feast(int bank, int v) {
        if (noBank(bank) || v < -9 || v > 9) return -1;
        int n = 0;
        for (int[] p : w.people) {
            if (p[2] == bank) {
                n++;
                p[1] += v;
                if (p[1] < 1) p[1] = 1;
                if (p[1] > 99) p[1] = 99;
            }
        }
        return n;
    }

    private static int mayCarry(int[] one) {
        return one[0] == 2 ? 3 : 1;
    }

    private static boolean levelled(World v, int[] bridge, int[] p, int[] q, int i, int j) {
        int play = bridge[2];
        if (p[0] == 3 || q[0] == 3) play = play / 2;
        else if (p[0] == 4 || q[0] == 4) play = play * 2;
        int differ = p[1] + i * v.stone - q[1] - j * v.stone;
        return -play <= differ && differ <= play;
    }

    private static boolean exiled(int[] bridge, int[] p, int[] q) {
        return p[0] == 1 && bridge[1] == 0 || q[0] == 1 && bridge[0] == 0;
    }

    private static boolean able(World v, int b, int p, int q, int i, int j) {
        int[] bridge = v.bridges.get(b), x = v.people.get(p), y = v.people.get(q);
        return x[2] == bridge[0] && y[2] == bridge[1] && i <= mayCarry(x) && j <= mayCarry(y)
            && i <= v.heap[x[2]] && j <= v.heap[y[2]] && !exiled(bridge, x, y) && levelled(v, bridge, x, y, i, j);
    }

    private boolean wrong(int b, int p, int q, int i, int j) {
        return noBridge(b) || noOne(p) || noOne(q) || p == q || i < 0 || i > 3 || j < 0 || j > 3;
    }

    int can(int b, int p, int q, int i, int j) {
        return wrong(b, p, q, i, j) ? -1 : able(w, b, p, q, i, j) ? 1 : 0;
    }

    private static void move(World v, int b, int p, int q, int i, int j) {
        int[] bridge = v.bridges.get(b);
        v.people.get(p)[2] = bridge[1];
        v.people.get(q)[2] = bridge[0];
        v.heap[bridge[0]] += j - i;
        v.heap[bridge[1]] += i - j;
        v.crossings++;
    }

    int cross(int b, int p, int q, int i, int j) {
        if (wrong(b, p, q, i, j)) return -1;
        if (!able(w, b, p, q, i, j)) return -4;
        World after = w.copy();
        move(after, b, p, q, i, j);
        if (after.crossings == 1000) return -3;
        for (int h : after.heap) if (h > 20) return -3;
        w = after;
        return w.crossings;
    }

    private int[] load(int[] bridge, int[] p, int[] q) {
        int[] best = null;
        for (int i = 0; i <= mayCarry(p); i++) {
            for (int j = 0; j <= mayCarry(q); j++) {
                if (!levelled(w, bridge, p, q, i, j)) continue;
                if (best == null || i + j < best[0] || i + j == best[0] && i < best[1]) best = new int[] {i + j, i, j};
            }
        }
        return best;
    }

    int balance(int b, int p, int q, int what) {
        if (wrong(b, p, q, 0, 0) || what < 0 || what > 2) return -1;
        int[] bridge = w.bridges.get(b), x = w.people.get(p), y = w.people.get(q);
        if (x[2] != bridge[0] || y[2] != bridge[1] || exiled(bridge, x, y)) return -2;
        int[] best = load(bridge, x, y);
        return best == null ? -4 : best[what];
    }

    int fellows(int b, int p) {
        if (noBridge(b) || noOne(p)) return -1;
        int[] bridge = w.bridges.get(b);
        int at = w.people.get(p)[2];
        if (at != bridge[0] && at != bridge[1]) return -2;
        int bits = 0;
        for (int x = 0; x < w.people.size(); x++) {
            if (x != p && (able(w, b, p, x, 0, 0) || able(w, b, x, p, 0, 0))) bits += 1 << x;
        }
        return bits;
    }

    /** All ways to pair: for each from the first bank the other one, 99 for none; the best is kept: pairs, stones, row. */
    private void pairings(int b, boolean heave, int k, List<Integer> row, int stones, Object[] best) {
        int[] bridge = w.bridges.get(b);
        if (k == w.people.size()) {
            int pairs = 0;
            for (int q : row) if (q != 99) pairs++;
            boolean better = best[0] == null;
            if (!better) {
                int c = Integer.compare((Integer) best[0], pairs);
                if (c == 0) c = Integer.compare(stones, (Integer) best[1]);
                if (c == 0) c = compareRows(row, best);
                better = c < 0;
            }
            if (better) {
                best[0] = pairs;
                best[1] = stones;
                best[2] = new ArrayList<>(row);
            }
            return;
        }
        row.add(99);
        pairings(b, heave, k + 1, row, stones, best);
        row.remove(row.size() - 1);
        int[] p = w.people.get(k);
        if (p[2] != bridge[0] || p[3] != bridge[1]) return;
        for (int q = w.people.size() - 1; q >= 0; q--) {
            int[] y = w.people.get(q);
            if (row.contains(q) || y[2] != bridge[1] || y[3] != bridge[0] || exiled(bridge, p, y)) continue;
            int[] l = load(bridge, p, y);
            if (l == null || !heave && l[0] > 0) continue;
            row.add(q);
            pairings(b, heave, k + 1, row, stones + l[0], best);
            row.remove(row.size() - 1);
        }
    }

    @SuppressWarnings("unchecked")
    private static int compareRows(List<Integer> row, Object[] best) {
        List<Integer> other = (List<Integer>) best[2];
        for (int i = 0; i < row.size(); i++) {
            if (!row.get(i).equals(other.get(i))) return row.get(i) - other.get(i);
        }
        return 0;
    }

    private Object[] paired(int b, boolean heave) {
        Object[] best = new Object[3];
        pairings(b, heave, 0, new ArrayList<>(), 0, best);
        return best;
    }

    @SuppressWarnings("unchecked")
    private int fellow(Object[] best, int p) {
        List<Integer> row = (List<Integer>) best[2];
        if (row.get(p) != 99) return row.get(p);
        return row.contains(p) ? row.indexOf(p) : -4;
    }

    int errands(int b, int what) {
        if (noBridge(b) || what != 0 && (what < 10 || noOne(what - 10))) return -1;
        Object[] best = paired(b, false);
        return what == 0 ? (Integer) best[0] : fellow(best, what - 10);
    }

    int heaved(int b, int what) {
        if (noBridge(b) || what != 0 && what != 1 && (what < 10 || noOne(what - 10))) return -1;
        Object[] best = paired(b, true);
        return what <= 1 ? (Integer) best[what] : fellow(best, what - 10);
    }

    int worth(int b, int p) {
        if (noBridge(b) || noOne(p)) return -1;
        int all = errands(b, 0);
        World was = w;
        w = w.copy();
        w.people.remove(p);
        int less = errands(b, 0);
        w = was;
        return all - less;
    }

    int hire(int b, int side, int what) {
        if (noBridge(b) || side < 0 || side > 1 || what < 0 || what > 1) return -1;
        World was = w;
        int most = -1, at = 0;
        for (int v = 1; v <= 99; v++) {
            w = was.copy();
            int[] bridge = w.bridges.get(b);
            w.people.add(new int[] {0, v, bridge[side], bridge[1 - side]});
            int n = errands(b, 0);
            if (n > most) {
                most = n;
                at = v;
            }
        }
        w = was;
        return what == 0 ? at : most;
    }

    private static String where(World v) {
        StringBuilder s = new StringBuilder();
        for (int[] p : v.people) s.append(p[2]);
        return s.toString();
    }

    private static List<Integer> steps(World v) {
        List<Integer> list = new ArrayList<>();
        for (int b = 0; b < v.bridges.size(); b++) {
            for (int p = 0; p < v.people.size(); p++) {
                for (int q = 0; q < v.people.size(); q++) if (able(v, b, p, q, 0, 0)) list.add(100 * b + 10 * p + q);
            }
        }
        return list;
    }

    private static World after(World v, int step) {
        World u = v.copy();
        move(u, step / 100, step / 10 % 10, step % 10, 0, 0);
        return u;
    }

    private static boolean earlier(List<Integer> a, List<Integer> b) {
        for (int i = 0; i < a.size(); i++) if (!a.get(i).equals(b.get(i))) return a.get(i) < b.get(i);
        return false;
    }

    /** All ways to stand, each with the first of its shortest rows of crossings. */
    private Map<String, List<Integer>> all() {
        Map<String, List<Integer>> done = new LinkedHashMap<>();
        Map<String, World> worlds = new HashMap<>();
        Map<String, List<Integer>> layer = new LinkedHashMap<>();
        layer.put(where(w), new ArrayList<>());
        worlds.put(where(w), w);
        while (!layer.isEmpty()) {
            done.putAll(layer);
            Map<String, List<Integer>> deeper = new LinkedHashMap<>();
            for (Map.Entry<String, List<Integer>> e : layer.entrySet()) {
                for (int step : steps(worlds.get(e.getKey()))) {
                    World u = after(worlds.get(e.getKey()), step);
                    if (done.containsKey(where(u))) continue;
                    worlds.put(where(u), u);
                    List<Integer> row = new ArrayList<>(e.getValue());
                    row.add(step);
                    List<Integer> old = deeper.get(where(u));
                    if (old == null || earlier(row, old)) deeper.put(where(u), row);
                }
            }
            layer = deeper;
        }
        return done;
    }

    int plan(int what) {
        if (what < 0 || what > 0 && what < 10) return -1;
        StringBuilder goal = new StringBuilder();
        for (int[] p : w.people) goal.append(p[3]);
        List<Integer> row = all().get(goal.toString());
        if (row == null) return -4;
        if (what == 0) return row.size();
        return what - 10 < row.size() ? row.get(what - 10) : -4;
    }

    int reach(int p) {
        if (noOne(p)) return -1;
        int bits = 0;
        for (String s : all().keySet()) bits |= 1 << s.charAt(p) - '0';
        return bits;
    }

    int ways() {
        return all().size();
    }

    int tell(int b, int p, int q) {
        if (wrong(b, p, q, 0, 0)) return -1;
        if (day.size() == 8) return -3;
        day.add(new int[] {b, p, q});
        return day.size();
    }

    int forget(int n) {
        int had = day.size();
        if (n < 0 || n > had) return -1;
        day = new ArrayList<>(day.subList(0, n));
        return had;
    }

    int judge() {
        World v = w.copy();
        for (int[] m : day) {
            if (!able(v, m[0], m[1], m[2], 0, 0)) return day.indexOf(m);
            move(v, m[0], m[1], m[2], 0, 0);
        }
        return -4;
    }

    int late(int p) {
        if (noOne(p)) return -1;
        World v = w.copy();
        int n = 0;
        for (int[] m : day) {
            if (m[1] != p && m[2] != p && able(v, m[0], m[1], m[2], 0, 0)) {
                move(v, m[0], m[1], m[2], 0, 0);
                n++;
            }
        }
        return n;
    }

    private int rowsTo(World v, int n, List<Integer> row, List<List<Integer>> found) {
        if (n == 0) {
            if (!where(v).equals(where(w))) return 0;
            if (found.isEmpty()) found.add(new ArrayList<>(row));
            return 1;
        }
        int sum = 0;
        for (int step : steps(v)) {
            row.add(step);
            sum += rowsTo(after(v, step), n - 1, row, found);
            row.remove(row.size() - 1);
        }
        return sum;
    }

    int fits(int k, int n, int what) {
        if (k < 0 || k > 1 || n < 0 || n > 4 || what != 0 && (what < 10 || what >= 10 + n)) return -1;
        if (images[k] == null) return -2;
        World v = w.copy();
        for (int p = 0; p < v.people.size(); p++) v.people.get(p)[2] = images[k].people.get(p)[2];
        List<List<Integer>> found = new ArrayList<>();
        int sum = rowsTo(v, n, new ArrayList<>(), found);
        if (what == 0) return sum;
        return found.isEmpty() ? -4 : found.get(0).get(what - 10);
    }

    int season(int seed, int n, int what) {
        if (n < 1 || n > 100 || what < 0 || what > 1) return -1;
        if (w.bridges.isEmpty() || w.people.isEmpty()) return -2;
        World v = w.copy();
        int s = seed, made = 0;
        for (int i = 0; i < n; i++) {
            int[] d = new int[3];
            for (int k = 0; k < 3; k++) {
                s = s * 1103515245 + 12345;
                int bits = 0;
                for (int bit = 16; bit <= 30; bit++) if ((s & 1 << bit) != 0) bits += 1 << bit - 16;
                d[k] = bits % (k == 0 ? v.bridges.size() : v.people.size());
            }
            if (d[1] != d[2] && able(v, d[0], d[1], d[2], 0, 0)) {
                move(v, d[0], d[1], d[2], 0, 0);
                made++;
            }
        }
        return what == 0 ? made : home(v);
    }

    private static int home(World v) {
        int n = 0;
        for (int[] p : v.people) if (p[2] == p[3]) n++;
        return n;
    }

    int keep(int k) {
        if (k < 0 || k > 1) return -1;
        int was = images[k] == null ? 0 : 1;
        images[k] = w.copy();
        return was;
    }

    int back(int k) {
        if (k < 0 || k > 1) return -1;
        if (images[k] == null) return -2;
        w = images[k].copy();
        return w.crossings;
    }

    int sheet(int k, int lane, int n) {
        if (k < 0 || k > 3 || lane < 0 || lane > 2 || n > 40) return -1;
        try {
            sheets[k] = lane == 0 ? new byte[n] : lane == 1 ? new short[n] : new int[n];
        } catch (NegativeArraySizeException e) {
            return -14;
        }
        return 1;
    }

    int lay(int k, int i, int v) {
        if (k < 0 || k > 3) return -1;
        try {
            if (sheets[k] instanceof byte[]) ((byte[]) sheets[k])[i] = (byte) v;
            else if (sheets[k] instanceof short[]) ((short[]) sheets[k])[i] = (short) v;
            else ((int[]) sheets[k])[i] = v;
        } catch (NullPointerException e) {
            return -11;
        } catch (ArrayIndexOutOfBoundsException e) {
            return -12;
        }
        return 1;
    }

    private int cell(int k, int lane, int i) {
        return lane == 0 ? ((byte[]) sheets[k])[i] : lane == 1 ? ((short[]) sheets[k])[i] : ((int[]) sheets[k])[i];
    }

    int read(int k, int lane, int f, int n) {
        if (k < 0 || k > 3 || lane < 0 || lane > 2 || n < 0 || n > 13) return -1;
        World was = w.copy();
        int found = 0, crossed = 0;
        try {
            for (int i = 0; i < n; i++) {
                int b = cell(k, lane, f + 3 * i), p = cell(k, lane, f + 3 * i + 1), q = cell(k, lane, f + 3 * i + 2);
                if (cross(b, p, q, 0, 0) < 0) {
                    w = was;
                    return -20 - i;
                }
                crossed++;
            }
        } catch (NullPointerException e) {
            found = 1;
        } catch (ArrayIndexOutOfBoundsException e) {
            found = 2;
        } catch (ClassCastException e) {
            found = 3;
        }
        torn = found;
        return crossed;
    }

    int torn() {
        return torn;
    }

    int count(int what) {
        switch (what) {
            case 0: return home(w);
            case 1: return day.size();
            case 2: return (images[0] == null ? 0 : 1) + (images[1] == null ? 0 : 1);
            case 3: return tape.length();
            case 4: return sheets[0] == null ? -4 : java.lang.reflect.Array.getLength(sheets[0]);
            case 5: return w.heap[0] + w.heap[1] + w.heap[2] + w.heap[3];
            default: return -1;
        }
    }
}
