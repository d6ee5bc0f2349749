import java.util.ArrayList;
import java.util.HashMap;
import java.util.HashSet;
import java.util.LinkedHashMap;
import java.util.List;
import java.util.Map;
import java.util.Set;

/** The document's Terms 2 to 5 once more, slowly and beat by beat, for stages small enough. */
final class Model {
    static final int NONE = -1;

    static final class Plate {
        int place, life, left;
        Plate(int place, int life, int left) { this.place = place; this.life = life; this.left = left; }
        Plate copy() { return new Plate(place, life, left); }
    }

    static final class Scene {
        int speed = 2, start = 0;
        List<Plate> plates = new ArrayList<>();
        Scene copy() {
            Scene s = new Scene();
            s.speed = speed;
            s.start = start;
            for (Plate p : plates) s.plates.add(p.copy());
            return s;
        }
        Scene only(int bits) {
            Scene s = copy();
            s.plates.clear();
            for (int i = 0; i < plates.size(); i++) if ((bits >> i & 1) == 1) s.plates.add(plates.get(i).copy());
            return s;
        }
        int way(int a, int b) {
            int far = Math.abs(a - b), beats = 0;
            while (far > 0) { far -= speed; beats++; }
            return beats;
        }
        int[] lefts() {
            int[] l = new int[plates.size()];
            for (int i = 0; i < l.length; i++) l[i] = plates.get(i).left;
            return l;
        }
        String told() {
            StringBuilder b = new StringBuilder("speed " + speed + ";start " + start + ";");
            for (Plate p : plates) b.append("plate " + p.place + " " + p.life + " " + p.left + ";");
            return b.toString();
        }
    }

    // ---- one beat, one run

    /** Takes a beat, answers how many fell. */
    static int beat(int[] left, int spared) {
        int fell = 0;
        for (int i = 0; i < left.length; i++) {
            if (i == spared || left[i] == 0) continue;
            left[i]--;
            if (left[i] == 0) fell++;
        }
        return fell;
    }

    /** {beats, fell, 1 if spun}; left is changed. */
    static int[] run(Scene s, int at, int[] left, int p) {
        int way = s.way(at, s.plates.get(p).place), fell = 0;
        for (int i = 0; i < way; i++) fell += beat(left, -1);
        boolean spun = left[p] > 0;
        fell += beat(left, spun ? p : -1);
        if (spun) left[p] = s.plates.get(p).life;
        return new int[] {way + 1, fell, spun ? 1 : 0};
    }

    // ---- FOREVER and what hangs on it

    static final class Graph {
        final Scene scene;
        final Map<String, int[]> lefts = new LinkedHashMap<>();
        final Map<String, Integer> where = new HashMap<>();
        final Map<String, Map<Integer, String>> next = new HashMap<>();
        final Map<String, Map<Integer, Integer>> cost = new HashMap<>();
        final Set<String> forever = new HashSet<>();
        final Map<String, Integer> lasts = new HashMap<>();
        final String first;

        Graph(Scene s) {
            scene = s;
            first = add(-1, s.lefts());
            List<String> todo = new ArrayList<>(List.of(first));
            for (int i = 0; i < todo.size(); i++) {
                String k = todo.get(i);
                int at = where.get(k) < 0 ? s.start : s.plates.get(where.get(k)).place;
                next.put(k, new HashMap<>());
                cost.put(k, new HashMap<>());
                for (int p = 0; p < s.plates.size(); p++) {
                    int[] l = lefts.get(k).clone();
                    int[] r = run(s, at, l, p);
                    if (r[1] > 0 || r[2] == 0) continue;
                    boolean known = lefts.containsKey(key(p, l));
                    String to = add(p, l);
                    if (!known) todo.add(to);
                    next.get(k).put(p, to);
                    cost.get(k).put(p, r[0]);
                }
            }
            forever.addAll(lefts.keySet());
            boolean again = !s.plates.isEmpty();
            while (again) {
                again = forever.removeIf(k -> {
                    for (String to : next.get(k).values()) if (forever.contains(to)) return false;
                    return true;
                });
            }
            for (String k : lefts.keySet()) lasts.put(k, idle(k));
            again = true;
            while (again) {
                again = false;
                for (String k : lefts.keySet()) {
                    if (forever.contains(k)) continue;
                    for (int p : next.get(k).keySet()) {
                        int v = cost.get(k).get(p) + lasts.get(next.get(k).get(p));
                        if (v > lasts.get(k)) { lasts.put(k, v); again = true; }
                    }
                }
            }
        }

        static String key(int w, int[] l) {
            StringBuilder b = new StringBuilder(w + ":");
            for (int v : l) b.append(v).append(',');
            return b.toString();
        }

        String add(int w, int[] l) {
            String k = key(w, l);
            lefts.putIfAbsent(k, l.clone());
            where.putIfAbsent(k, w);
            return k;
        }

        int idle(String k) {
            int[] l = lefts.get(k).clone();
            if (l.length == 0) return 0;
            int beats = 1;
            while (beat(l, -1) == 0) beats++;
            return beats;
        }

        /** ROW's first plates, at most so many. */
        List<Integer> row(int most, List<String> stands, List<Integer> costs) {
            List<Integer> r = new ArrayList<>();
            String k = first;
            stands.add(k);
            int n = scene.plates.size();
            while (r.size() < most) {
                int pick = NONE;
                if (!forever.contains(k) && idle(k) == lasts.get(k)) break;
                for (int p = n - 1; p >= 0; p--) {
                    if (!next.get(k).containsKey(p)) continue;
                    String to = next.get(k).get(p);
                    boolean good = forever.contains(k) ? forever.contains(to)
                        : cost.get(k).get(p) + lasts.get(to) == lasts.get(k);
                    if (good) pick = p;
                }
                if (pick == NONE) break;
                r.add(pick);
                costs.add(cost.get(k).get(pick));
                k = next.get(k).get(pick);
                stands.add(k);
            }
            return r;
        }
    }

    private static final Map<String, Boolean> KNOWN = new HashMap<>();

    static boolean forever(Scene s) {
        if (s.plates.isEmpty()) return true;
        String t = s.told();
        if (!KNOWN.containsKey(t)) {
            Graph g = new Graph(s);
            KNOWN.put(t, g.forever.contains(g.first));
        }
        return KNOWN.get(t);
    }

    static int keep(Scene s, int what) {
        boolean known = what >= 0 && what <= 5 || what >= 10 && what <= 109;
        if (!known) return -2;
        if (s.plates.isEmpty()) return what == 0 ? 1 : NONE;
        Graph g = new Graph(s);
        boolean ever = g.forever.contains(g.first);
        List<String> stands = new ArrayList<>();
        List<Integer> costs = new ArrayList<>();
        List<Integer> row = g.row(5000, stands, costs);
        if (what >= 10) return what - 10 < row.size() ? row.get(what - 10) : NONE;
        if (what == 0) return ever ? 1 : 0;
        if (what == 1) return ever ? NONE : g.lasts.get(g.first);
        if (what == 5) return ever ? NONE : row.size();
        if (!ever) return NONE;
        for (int i = 0; ; i++) {
            for (int j = i + 1; j < stands.size(); j++) {
                if (stands.get(i).equals(stands.get(j))) {
                    int sum = 0;
                    for (int m = i; m < j; m++) sum += costs.get(m);
                    return what == 2 ? i : what == 3 ? j - i : sum;
                }
            }
        }
    }

    static int need(Scene s, int what) {
        int n = s.plates.size();
        if (what == 0) {
            for (int v = 1; v <= 9; v++) { Scene t = s.copy(); t.speed = v; if (forever(t)) return v; }
            return NONE;
        }
        if (what == 1) {
            int bits = 0;
            for (int v = 0; v <= 9; v++) { Scene t = s.copy(); t.start = v; if (forever(t)) bits |= 1 << v; }
            return bits;
        }
        if (what == 2 || what == 3) {
            int best = 0;
            for (int b = 0; b < 1 << n; b++) if (forever(s.only(b)) && Integer.bitCount(b) > Integer.bitCount(best)) best = b;
            return what == 2 ? Integer.bitCount(best) : best;
        }
        if (what == 4) {
            int bits = 0;
            for (int p = 0; p < n; p++) if (forever(s.only(31 - (1 << p)))) bits |= 1 << p;
            return bits;
        }
        if (what == 5) return new Graph(s).lefts.size();
        if (what == 6) return new Graph(s).forever.size();
        if (what >= 10 && what < 10 + n) {
            for (int v = 1; v <= 6; v++) {
                Scene t = s.copy();
                Plate p = t.plates.get(what - 10);
                p.life = v;
                if (p.left > v) p.left = v;
                if (forever(t)) return v;
            }
            return NONE;
        }
        if (what >= 20 && what < 20 + n) {
            int bits = 0;
            for (int v = 0; v <= 9; v++) { Scene t = s.copy(); t.plates.get(what - 20).place = v; if (forever(t)) bits |= 1 << v; }
            return bits;
        }
        return -2;
    }

    static int behind(Scene s, int plate, int what) {
        if (plate < 0 || plate >= s.plates.size() || what < 0 || what > 2) return -2;
        Graph g = new Graph(s);
        String to = g.next.get(g.first).get(plate);
        if (what == 0) return to == null ? 0 : 1;
        if (to == null) return -2;
        boolean ever = g.forever.contains(to);
        if (what == 1) return ever ? 1 : 0;
        return ever ? NONE : g.lasts.get(to);
    }

    // ---- SAVE, DUEL, ODDS

    static int up(int[] left) {
        int n = 0;
        for (int v : left) if (v > 0) n++;
        return n;
    }

    /** {value, first} */
    static int[] save(Scene s, int at, int[] left, int n) {
        if (n == 0) return new int[] {up(left), NONE};
        int best = -1, first = NONE;
        for (int p = 0; p <= 5; p++) {
            int[] l = left.clone();
            int v;
            if (p == 5) {
                beat(l, -1);
                v = save(s, at, l, n - 1)[0];
            } else {
                if (p >= left.length || left[p] == 0) continue;
                int[] r = run(s, at, l, p);
                if (r[0] > n) continue;
                v = save(s, s.plates.get(p).place, l, n - r[0])[0];
            }
            if (v > best) { best = v; first = p; }
        }
        return new int[] {best, first};
    }

    static int[] duel(Scene s, int at, int[] left, int n, boolean runner) {
        if (n == 0) return new int[] {up(left), NONE};
        int best = runner ? -1 : 99, first = NONE;
        for (int p = 0; p <= 5; p++) {
            if (p < 5 && (p >= left.length || left[p] == 0)) continue;
            int[] l = left.clone();
            int to = at;
            if (runner && p == 5) beat(l, -1);
            if (runner && p < 5) { run(s, at, l, p); to = s.plates.get(p).place; }
            if (!runner && p < 5) l[p]--;
            int v = duel(s, to, l, n - 1, !runner)[0];
            if (runner ? v > best : v < best) { best = v; first = p; }
        }
        return new int[] {best, first};
    }

    static long[] odds(int left, int p, int n) {
        long good = 0, all = 0;
        for (int way = 0; way < 1 << n; way++) {
            long weight = 1;
            int l = left;
            for (int i = 0; i < n; i++) {
                boolean two = (way >> i & 1) == 1;
                weight *= two ? p : 10 - p;
                l -= two ? 2 : 1;
            }
            all += weight;
            if (l > 0) good += weight;
        }
        long g = good == 0 ? all : java.math.BigInteger.valueOf(good).gcd(java.math.BigInteger.valueOf(all)).longValue();
        return new long[] {good / g, all / g};
    }

    // ---- shows

    static final class Act {
        int at, beats, fell, spun, vain, ways, most, longest, quiet, firstFell = NONE, made;
        int[] left, life, spunBy;
        final Scene s;

        Act(Scene scene) {
            s = scene.copy();
            at = s.start;
            left = s.lefts();
            life = new int[left.length];
            spunBy = new int[left.length];
            for (int i = 0; i < life.length; i++) life[i] = s.plates.get(i).life;
        }

        private void pass(int spared) {
            int f = beat(left, spared);
            beats++;
            fell += f;
            if (f > most) most = f;
            if (f > 0) quiet = 0; else quiet++;
            if (quiet > longest) longest = quiet;
        }

        /** False: it can't be, and nothing was done. */
        boolean act(int kind, int p) {
            int was = fell;
            if (kind == 0) {
                if (beats == 99) return false;
                pass(-1);
            } else {
                if (p < 0 || p >= left.length) return false;
                int way = s.way(at, s.plates.get(p).place);
                if (kind == 1 || kind == 2) {
                    if (kind == 1 != left[p] > 0) return false;
                    if (beats + way + 1 > 99) return false;
                    for (int i = 0; i < way; i++) pass(-1);
                    boolean spin = kind == 1 && left[p] > 0;
                    pass(spin ? p : -1);
                    ways += way;
                    at = s.plates.get(p).place;
                    if (spin) { spun++; spunBy[p]++; }
                    if (kind == 1 && !spin) vain++;
                    if (spin || kind == 2) left[p] = life[p];
                } else if (kind == 3) {
                    if (left[p] == 0) return false;
                    left[p]--;
                    if (left[p] == 0) fell++;
                } else {
                    if (life[p] == 6) return false;
                    life[p]++;
                }
            }
            if (was == 0 && fell > 0) firstFell = made;
            made++;
            return true;
        }

        int view(int what) {
            if (what == 0) return beats;
            if (what == 1) return at;
            if (what == 2) { int b = 0; for (int i = 0; i < left.length; i++) if (left[i] > 0) b |= 1 << i; return b; }
            if (what == 3) return fell;
            if (what == 4) return spun;
            for (int i = 0; i < left.length; i++) {
                if (what == 10 + i) return left[i];
                if (what == 20 + i) return life[i];
            }
            return NONE;
        }

        int after(int what) {
            int best = NONE;
            for (int i = left.length - 1; i >= 0; i--) if (spunBy[i] > 0 && (best == NONE || spunBy[i] >= spunBy[best])) best = i;
            int[] all = {firstFell, vain, best, longest, ways, most};
            return what < 0 || what > 5 ? -2 : all[what];
        }
    }

    static Act play(Scene s, List<int[]> deeds, int n) {
        Act a = new Act(s);
        for (int i = 0; i < n && i < deeds.size(); i++) if (!a.act(deeds.get(i)[0], deeds.get(i)[1])) break;
        return a;
    }

    static Act drawn(Scene s, int seed, int n) {
        Act a = new Act(s);
        int[] x = {seed};
        for (int i = 0; i < n; i++) {
            int k = draw(x, 10);
            if (k >= 8) { a.act(0, NONE); continue; }
            if (s.plates.isEmpty()) continue;
            int p = draw(x, s.plates.size());
            a.act(k <= 4 ? 1 : k - 3, p);
        }
        return a;
    }

    private static int draw(int[] x, int n) {
        long y = ((x[0] & 0xffffffffL) * 1103515245L + 12345L) & 0xffffffffL;
        x[0] = (int) y;
        return (int) (y >> 16) % n;
    }

    // ---- logs

    static final class Told {
        int runs = 1;
        List<int[]> facts = new ArrayList<>(); // stood, plate, beats
    }

    static final class Fit {
        int number, beats, up;
        int[] runs;
        boolean[][] stands; // [beats][plate]
    }

    static List<Fit> fits(Scene s, Told log) {
        List<Fit> all = new ArrayList<>();
        List<boolean[]> line = new ArrayList<>();
        go(s, log, s.start, s.lefts(), new ArrayList<>(), line, all);
        return all;
    }

    private static boolean[] shot(int[] left) {
        boolean[] b = new boolean[left.length];
        for (int i = 0; i < b.length; i++) b[i] = left[i] > 0;
        return b;
    }

    private static void go(Scene s, Told log, int at, int[] left, List<Integer> made, List<boolean[]> line, List<Fit> all) {
        if (made.size() == log.runs) {
            Fit f = new Fit();
            f.beats = line.size();
            f.up = up(left);
            List<boolean[]> whole = new ArrayList<>(line);
            int[] l = left.clone();
            while (whole.size() < 80) { whole.add(shot(l)); beat(l, -1); }
            f.stands = whole.toArray(new boolean[0][]);
            f.number = 1;
            f.runs = new int[log.runs];
            for (int i = 0; i < made.size(); i++) { f.runs[i] = made.get(i); f.number = f.number * 10 + made.get(i); }
            for (int[] fact : log.facts) {
                if (fact[1] >= left.length) return;
                if (f.stands[fact[2]][fact[1]] != (fact[0] == 1)) return;
            }
            all.add(f);
            return;
        }
        for (int p = 0; p < left.length; p++) {
            if (left[p] == 0) continue;
            int[] l = left.clone();
            List<boolean[]> more = new ArrayList<>(line);
            List<Integer> done = new ArrayList<>(made);
            done.add(p);
            int way = s.way(at, s.plates.get(p).place);
            for (int i = 0; i < way; i++) { more.add(shot(l)); beat(l, -1); }
            more.add(shot(l));
            boolean spin = l[p] > 0;
            beat(l, spin ? p : -1);
            if (spin) l[p] = s.plates.get(p).life;
            go(s, log, s.plates.get(p).place, l, done, more, all);
        }
    }

    static int fitAnswer(Scene s, Told log, List<Fit> fits, int what) {
        if (what == 0) return fits.size();
        if (what == 1) {
            if (fits.isEmpty() || s.plates.isEmpty()) return NONE;
            int best = NONE, least = Integer.MAX_VALUE;
            for (int t = 0; t <= 20; t++) for (int p = 0; p < s.plates.size(); p++) {
                int stood = 0, lay = 0;
                for (Fit f : fits) if (f.stands[t][p]) stood++; else lay++;
                if (Math.max(stood, lay) < least) { least = Math.max(stood, lay); best = 10 * t + p; }
            }
            return best;
        }
        if (what >= 2 && what <= 5) {
            if (fits.isEmpty() || what - 2 >= log.runs) return NONE;
            for (Fit f : fits) if (f.runs[what - 2] != fits.get(0).runs[what - 2]) return NONE;
            return fits.get(0).runs[what - 2];
        }
        if (what >= 10 && what - 10 < fits.size()) return fits.get(what - 10).number;
        return -2;
    }

    static int least(List<Fit> fits, int what) {
        if (fits.isEmpty() || what < 0 || what > 2) return NONE;
        int low = Integer.MAX_VALUE, high = 0, most = 0;
        for (Fit f : fits) { low = Math.min(low, f.beats); high = Math.max(high, f.beats); most = Math.max(most, f.up); }
        return what == 0 ? low : what == 1 ? high : most;
    }

    // ---- LOAD

    static int load(Scene s, int what) {
        int n = s.plates.size();
        if (what == 0 || what == 1) {
            long num = 0, den = 1;
            for (Plate p : s.plates) { num = num * p.life + den; den *= p.life; }
            long g = java.math.BigInteger.valueOf(num).gcd(java.math.BigInteger.valueOf(den)).longValue();
            return (int) ((what == 0 ? num : den) / g);
        }
        if (what == 2 || what >= 20) {
            List<Integer> order = new ArrayList<>();
            int[] l = s.lefts();
            int firstBeat = NONE;
            for (int t = 1; t <= 6; t++) {
                boolean[] was = shot(l);
                beat(l, -1);
                for (int i = 0; i < n; i++) if (was[i] && l[i] == 0) { order.add(i); if (firstBeat == NONE) firstBeat = t; }
            }
            if (what == 2) return firstBeat;
            return what - 20 < n ? order.get(what - 20) : NONE;
        }
        if (what == 3) {
            int span = 0;
            for (Plate a : s.plates) for (Plate b : s.plates) span = Math.max(span, a.place - b.place);
            return span;
        }
        if (what == 4) {
            int c = 0;
            for (int i = 0; i < n; i++) for (int j = 0; j < i; j++) if (s.plates.get(i).place == s.plates.get(j).place) c++;
            return c;
        }
        if (what == 5) {
            int b = 0;
            for (int i = 0; i < n; i++) if (forever(s.only(1 << i))) b |= 1 << i;
            return b;
        }
        if (what == 6) {
            int c = 0;
            for (int i = 0; i < n; i++) for (int j = 0; j < i; j++) if (forever(s.only(1 << i | 1 << j))) c++;
            return c;
        }
        if (what == 7) {
            int b = 0;
            for (int i = 0; i < n; i++) if (run(s, s.start, s.lefts(), i)[2] == 0) b |= 1 << i;
            return b;
        }
        if (what == 8 || what == 9) {
            if (n == 0) return what == 8 ? 1 : 0;
            int[] l = s.lefts();
            int at = s.start, made = 0;
            for (; made < 1000; made++) {
                int p = made % n;
                int[] r = run(s, at, l, p);
                if (r[1] > 0 || r[2] == 0) break;
                at = s.plates.get(p).place;
            }
            return what == 8 ? (made == 1000 ? 1 : 0) : Math.min(made, 99);
        }
        if (what == 10 || what == 11) {
            int best = NONE, least = 9999;
            for (int c = 0; c <= 9; c++) {
                int sum = 0;
                for (Plate p : s.plates) sum += s.way(c, p.place);
                if (sum < least) { least = sum; best = c; }
            }
            return what == 10 ? best : least;
        }
        if (what == 12) {
            if (forever(s)) return NONE;
            for (int i = 0; i < n; i++) for (int j = i + 1; j < n; j++) {
                Scene t = s.copy();
                int a = t.plates.get(i).place;
                t.plates.get(i).place = t.plates.get(j).place;
                t.plates.get(j).place = a;
                if (forever(t)) return 10 * i + j;
            }
            return NONE;
        }
        return -2;
    }
}
