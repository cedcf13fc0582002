import java.util.ArrayList;
import java.util.Arrays;
import java.util.HashMap;
import java.util.HashSet;
import java.util.List;
import java.util.Map;
import java.util.Set;
import java.util.TreeMap;
import java.util.TreeSet;
import java.util.regex.Matcher;
import java.util.regex.Pattern;

/**
 * The document told a second time, as plainly as may be: every way is tried where the class reckons.
 * It is what the random runs of ModelTest compare the class with.
 */
final class NaiveBall {
    private static final int BAD = -1, STATE = -2, FULL = -3, NONE = -4;
    private static final List<String> NAMES = List.of("pair", "rank", "row", "supper");
    private static final int[] LEAST = {1, 0, 1, 0}, MOST = {24, 9, 24, 23};
    private static final Pattern TOKEN = Pattern.compile("([a-z]+)|([0-9]+)|(;)");

    private final List<Boolean> ladies = new ArrayList<>();
    private final List<Integer> ranks = new ArrayList<>();
    private final Set<Set<Integer>> known = new HashSet<>();
    private final Set<Set<Integer>> foes = new HashSet<>();
    private final Set<Integer> ill = new HashSet<>();
    /** By dance: the gentleman of each lady, and the ladies who sit. */
    private final List<TreeMap<Integer, Integer>> couples = new ArrayList<>();
    private final List<Set<Integer>> sitting = new ArrayList<>();
    private Map<String, Integer> told = new HashMap<>();
    private String tape = "";
    private int fault;
    private final int[][] cells = new int[4][];
    private final int[] lanes = new int[4];
    private final TreeMap<List<Integer>, Integer> wishes = new TreeMap<>((a, b) ->
            a.get(0).equals(b.get(0)) ? a.get(1) - b.get(1) : a.get(0) - b.get(0));

    NaiveBall() {
        for (int d = 0; d < 24; d++) {
            couples.add(new TreeMap<>());
            sitting.add(new HashSet<>());
        }
    }

    private boolean there(int... people) {
        for (int p : people) if (p < 0 || p >= ladies.size()) return false;
        return true;
    }

    private boolean fits(int g, int l, int d) {
        return there(g, l) && !ladies.get(g) && ladies.get(l) && d >= 0 && d < 24;
    }

    private static int bit(boolean yes) {
        return yes ? 1 : 0;
    }

    int person(boolean lady, int rank) {
        if (rank < 0 || rank > 9) return BAD;
        if (ladies.size() == 16) return FULL;
        ladies.add(lady);
        ranks.add(rank);
        return ladies.size() - 1;
    }

    int introduce(int by, int a, int b) {
        if (!there(a, b) || a == b || by == a || by == b) return BAD;
        if (by != NONE && !there(by)) return BAD;
        if (by != NONE && !(known.contains(Set.of(by, a)) && known.contains(Set.of(by, b)))) return STATE;
        return known.add(Set.of(a, b)) ? 1 : STATE;
    }

    int feud(int a, int b, boolean on) {
        if (!there(a, b) || a == b) return BAD;
        return bit(on ? !foes.add(Set.of(a, b)) : foes.remove(Set.of(a, b)));
    }

    int knows(int a, int b) {
        if (!there(a, b)) return BAD;
        return bit(a != b && known.contains(Set.of(a, b)));
    }

    int feed(long v) {
        if (tape.length() + 8 > 100) return FULL;
        for (int i = 56; i >= 0; i -= 8) tape += (char) (v >>> i & 0xff);
        return tape.length();
    }

    int end(int n) {
        if (n < 0 || n > tape.length()) return BAD;
        int before = tape.length();
        tape = tape.substring(0, n);
        return before;
    }

    int customs() {
        Map<String, Integer> fresh = new HashMap<>();
        fault = 0;
        int place = read(fresh);
        tape = "";
        if (fault != 0) return -10 - place;
        told = fresh;
        return told.size();
    }

    /** Reads the tape into the customs; sets the fault and answers its place. */
    private int read(Map<String, Integer> fresh) {
        int at = 0;
        int state = 0;
        String name = "";
        while (true) {
            while (at < tape.length() && tape.charAt(at) == ' ') at++;
            if (at == tape.length()) {
                fault = state == 0 ? 0 : 2;
                return at;
            }
            Matcher m = TOKEN.matcher(tape).region(at, tape.length());
            boolean strange = !m.lookingAt() || m.group(1) != null && !NAMES.contains(m.group(1))
                    || m.group(2) != null && m.group(2).length() > 3;
            if (strange) fault = 1;
            else if (m.group(state + 1) == null) fault = 2;
            else if (state == 0 && fresh.containsKey(m.group())) fault = 4;
            else if (state == 1 && !inBounds(name, Integer.parseInt(m.group()))) fault = 3;
            if (fault != 0) return at;
            if (state == 0) name = m.group();
            if (state == 1) fresh.put(name, Integer.parseInt(m.group()));
            state = (state + 1) % 3;
            at = m.end();
        }
    }

    private static boolean inBounds(String name, int n) {
        int k = NAMES.indexOf(name);
        return n >= LEAST[k] && n <= MOST[k];
    }

    int fault() {
        return fault;
    }

    int custom(int k) {
        return k < 0 || k > 3 ? BAD : told.getOrDefault(NAMES.get(k), NONE);
    }

    private int partner(int p, int d) {
        for (Map.Entry<Integer, Integer> c : couples.get(d).entrySet()) {
            if (c.getKey() == p) return c.getValue();
            if (c.getValue() == p) return c.getKey();
        }
        return sitting.get(d).contains(p) ? -5 : NONE;
    }

    private int reason(int g, int l, int d) {
        if (ill.contains(g) || ill.contains(l)) return 1;
        if (!known.contains(Set.of(g, l))) return 2;
        if (foes.contains(Set.of(g, l))) return 3;
        if (Math.abs(ranks.get(g) - ranks.get(l)) > told.getOrDefault("rank", 9)) return 4;
        if (partner(g, d) != NONE || partner(l, d) != NONE) return 5;
        int together = 0;
        for (int e = 0; e < 24; e++) if (partner(g, e) == l) together++;
        if (together + 1 > told.getOrDefault("pair", 24)) return 6;
        if (rowWith(g, d) > told.getOrDefault("row", 24)) return 7;
        if (rowWith(l, d) > told.getOrDefault("row", 24)) return 7;
        if (told.getOrDefault("supper", NONE) == d && together == 0) return 8;
        return 0;
    }

    private int rowWith(int p, int d) {
        StringBuilder dances = new StringBuilder();
        for (int e = 0; e < 24; e++) dances.append(e == d ? 'D' : partner(p, e) >= 0 ? 'x' : ' ');
        for (String row : dances.toString().split(" +")) if (row.indexOf('D') >= 0) return row.length();
        throw new IllegalStateException();
    }

    int ask(int g, int l, int d) {
        if (!fits(g, l, d)) return BAD;
        int reason = reason(g, l, d);
        if (reason != 0) return -10 - reason;
        couples.get(d).put(l, g);
        return 1;
    }

    int why(int g, int l, int d) {
        return fits(g, l, d) ? reason(g, l, d) : BAD;
    }

    int refuse(int l, int g, int d) {
        if (!fits(g, l, d)) return BAD;
        if (reason(g, l, d) != 0) return -10 - reason(g, l, d);
        sitting.get(d).add(l);
        return 1;
    }

    int part(int g, int l, int d) {
        if (!fits(g, l, d)) return BAD;
        return couples.get(d).remove(l, g) ? 1 : STATE;
    }

    int swap(int g, int h, int d) {
        if (!there(g, h) || ladies.get(g) || ladies.get(h) || g == h || d < 0 || d > 23) return BAD;
        int m = partner(g, d);
        int n = partner(h, d);
        if (m < 0 || n < 0) return STATE;
        couples.get(d).remove(m);
        couples.get(d).remove(n);
        int reason = reason(g, n, d) != 0 ? reason(g, n, d) : reason(h, m, d);
        couples.get(d).put(reason == 0 ? n : m, g);
        couples.get(d).put(reason == 0 ? m : n, h);
        return reason == 0 ? 1 : -10 - reason;
    }

    int card(int p, int d) {
        return there(p) && d >= 0 && d < 24 ? partner(p, d) : BAD;
    }

    int ill(int p) {
        if (!there(p)) return BAD;
        if (!ill.add(p)) return STATE;
        int before = count(2);
        for (TreeMap<Integer, Integer> dance : couples) {
            dance.remove(p);
            dance.values().removeIf(g -> g == p);
        }
        return before - count(2);
    }

    int well(int p) {
        if (!there(p)) return BAD;
        return ill.remove(p) ? 1 : STATE;
    }

    int could(int d) {
        return d < 0 || d > 23 ? BAD : bestFill(d).size();
    }

    int fill(int d) {
        if (d < 0 || d > 23) return BAD;
        Map<Integer, Integer> best = bestFill(d);
        couples.get(d).putAll(best);
        return best.size();
    }

    /** All ways in the order of the document, "none" behind every gentleman: the first of the greatest. */
    private Map<Integer, Integer> bestFill(int d) {
        boolean[][] can = new boolean[16][16];
        int able = 0;
        for (int l = 0; l < 16; l++) {
            boolean any = false;
            for (int g = 0; g < 16; g++) {
                can[l][g] = fits(g, l, d) && reason(g, l, d) == 0;
                any |= can[l][g];
            }
            if (any) able++;
        }
        Map<Integer, Integer> best = new HashMap<>();
        for (int most = able; most > 0; most--) {
            if (tryFill(can, 0, most, best, able)) return best;
        }
        return best;
    }

    private static boolean tryFill(boolean[][] can, int l, int missing, Map<Integer, Integer> made, int able) {
        if (missing == 0) return true;
        if (missing > 16 - l || missing > able) return false;
        for (int g = 0; g < 16; g++) {
            if (!can[l][g] || made.containsValue(g)) continue;
            made.put(l, g);
            if (tryFill(can, l + 1, missing - 1, made, able)) return true;
            made.remove(l);
        }
        return tryFill(can, l + 1, missing, made, able);
    }

    int about(int p, int what) {
        if (!there(p) || what < 0 || what > 3) return BAD;
        Set<Integer> others = new TreeSet<>();
        StringBuilder row = new StringBuilder();
        int sits = 0;
        for (int d = 0; d < 24; d++) {
            int q = partner(p, d);
            if (q >= 0) others.add(q);
            if (q == -5) sits++;
            row.append(q >= 0 ? 'x' : ' ');
        }
        if (what == 0) return row.toString().replace(" ", "").length();
        if (what == 1) return others.size();
        if (what == 3) return sits;
        return Arrays.stream(row.toString().split(" ")).mapToInt(String::length).max().orElse(0);
    }

    int sheet(int k, int lane, int n) {
        if (k < 0 || k > 3 || lane < 0 || lane > 2 || n > 60) return BAD;
        if (n < 0) return -14;
        cells[k] = new int[n];
        lanes[k] = lane;
        return 1;
    }

    int lay(int k, int i, int v) {
        if (k < 0 || k > 3) return BAD;
        if (cells[k] == null) return -11;
        if (i < 0 || i >= cells[k].length) return -12;
        cells[k][i] = lanes[k] == 0 ? (byte) v : lanes[k] == 1 ? (short) v : v;
        return 1;
    }

    int scan(int k, int lane, int f, int n) {
        if (k < 0 || k > 3 || lane < 0 || lane > 2 || n < 0 || n > 20) return BAD;
        if (cells[k] == null) return -21;
        if (lanes[k] != lane) return -23;
        List<TreeMap<Integer, Integer>> before = new ArrayList<>();
        for (TreeMap<Integer, Integer> dance : couples) before.add(new TreeMap<>(dance));
        int answer = n;
        long at = f;
        for (int i = 0; i < n && answer == n; i++, at += 3) {
            if (at < 0 || at > cells[k].length - 3) {
                answer = -22;
                continue;
            }
            int asked = ask(cells[k][(int) at], cells[k][(int) at + 1], cells[k][(int) at + 2]);
            if (asked == BAD) answer = -30;
            else if (asked < 0) answer = asked - 20;
        }
        if (answer != n) for (int d = 0; d < 24; d++) couples.set(d, before.get(d));
        return answer;
    }

    int wish(int l, int g, int n) {
        if (!fits(g, l, 0) || n < 0 || n > 4) return BAD;
        Integer before = wishes.put(List.of(l, g), n);
        return before == null ? 0 : before;
    }

    int fewest() {
        int most = 0;
        for (int p = 0; p < 16; p++) {
            int sum = 0;
            for (Map.Entry<List<Integer>, Integer> w : wishes.entrySet()) {
                if (w.getKey().contains(p)) sum += w.getValue();
            }
            most = Math.max(most, sum);
        }
        return most;
    }

    /** Wishes as rows {lady, gentleman, dance}. */
    private List<int[]> laidWishes() {
        List<int[]> all = new ArrayList<>();
        for (Map.Entry<List<Integer>, Integer> w : wishes.entrySet()) {
            for (int i = 0; i < w.getValue(); i++) layOne(all, w.getKey().get(0), w.getKey().get(1));
        }
        return all;
    }

    private static void layOne(List<int[]> all, int l, int g) {
        int a = 0;
        while (find(all, 0, l, a) != null) a++;
        int b = 0;
        while (find(all, 1, g, b) != null) b++;
        List<int[]> row = new ArrayList<>();
        int[] link = a == b ? null : find(all, 1, g, a);
        while (link != null) {
            row.add(link);
            link = row.size() % 2 == 1 ? find(all, 0, link[0], b) : find(all, 1, link[1], a);
        }
        for (int[] r : row) r[2] = a + b - r[2];
        all.add(new int[] {l, g, a});
    }

    private static int[] find(List<int[]> all, int side, int p, int d) {
        for (int[] w : all) if (w[side] == p && w[2] == d) return w;
        return null;
    }

    int laid(int p, int d) {
        if (!there(p) || d < 0 || d > 63) return BAD;
        int side = ladies.get(p) ? 0 : 1;
        int[] w = find(laidWishes(), side, p, d);
        return w == null ? NONE : w[1 - side];
    }

    int sets(int d) {
        return d < 0 || d > 23 ? BAD : bestSets(d).stream().mapToInt(s -> s + 1).max().orElse(0);
    }

    int set(int p, int d) {
        if (!there(p) || d < 0 || d > 23) return BAD;
        if (partner(p, d) < 0) return NONE;
        int lady = ladies.get(p) ? p : partner(p, d);
        return bestSets(d).get(new ArrayList<>(couples.get(d).keySet()).indexOf(lady));
    }

    /** Every number with so many figures as there are couples is a way, in the order of the document. */
    private List<Integer> bestSets(int d) {
        List<Integer> dancing = new ArrayList<>(couples.get(d).keySet());
        for (int number = 1; number <= 8; number++) {
            List<Integer> way = new ArrayList<>();
            if (trySets(d, dancing, number, way)) return way;
        }
        throw new IllegalStateException();
    }

    private boolean trySets(int d, List<Integer> dancing, int number, List<Integer> way) {
        int i = way.size();
        if (i == dancing.size()) return true;
        for (int s = 0; s < number; s++) {
            int in = 0;
            boolean peace = true;
            for (int j = 0; j < i; j++) {
                if (way.get(j) != s) continue;
                in++;
                peace &= !atFeud(d, dancing.get(i), dancing.get(j));
            }
            if (in == 4 || !peace) continue;
            way.add(s);
            if (trySets(d, dancing, number, way)) return true;
            way.remove(i);
        }
        return false;
    }

    private boolean atFeud(int d, int l, int m) {
        int g = couples.get(d).get(l);
        int h = couples.get(d).get(m);
        return foes.contains(Set.of(l, m)) || foes.contains(Set.of(l, h))
                || foes.contains(Set.of(g, m)) || foes.contains(Set.of(g, h));
    }

    int count(int what) {
        switch (what) {
            case 0: return ladies.size();
            case 1: return (int) ladies.stream().filter(x -> x).count();
            case 2: return couples.stream().mapToInt(Map::size).sum();
            case 3: return told.size();
            case 4: return ill.size();
            case 5: return known.size();
            case 6: return cells[0] == null ? NONE : cells[0].length;
            case 7: return tape.length();
            default: return BAD;
        }
    }
}
