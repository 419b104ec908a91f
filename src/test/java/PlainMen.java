import java.nio.charset.StandardCharsets;
import java.util.ArrayList;
import java.util.Arrays;
import java.util.HashMap;
import java.util.HashSet;
import java.util.List;
import java.util.Map;
import java.util.TreeMap;

/**
 * The document once more, as plainly as the Java library allows and with another way of doing
 * each thing, for ChainedMen to be held against. Slow.
 */
public final class PlainMen {
    static final int BAD = -1, FULL = -2, FINDING = -3, STATE = -4, NONE = -9;

    private static final class Kept {
        List<Integer> stand;
        List<Integer> steps;
        List<List<Integer>> ahead;
        int tide;
        List<Boolean> open;
    }

    private final int[][] rows = new int[6][];
    private final byte[][] texts = new byte[4][];
    private String[] lines = {};
    private String kinds = "";
    private boolean ring;
    private List<Integer> lengths = new ArrayList<>();
    private Kept now = fresh();
    private final Kept[] kept = new Kept[3];
    private final List<int[]> quarrels = new ArrayList<>();
    private int asked;
    private int finding;
    private final int[] findings = new int[6];
    private final Map<String, Map<List<Integer>, String>> explored = new HashMap<>();

    private static Kept fresh() {
        Kept k = new Kept();
        k.stand = new ArrayList<>();
        k.steps = new ArrayList<>();
        k.ahead = new ArrayList<>();
        k.open = new ArrayList<>();
        return k;
    }

    private static Kept copyOf(Kept from) {
        Kept k = new Kept();
        k.stand = new ArrayList<>(from.stand);
        k.steps = new ArrayList<>(from.steps);
        k.ahead = new ArrayList<>(from.ahead);
        k.open = new ArrayList<>(from.open);
        k.tide = from.tide;
        return k;
    }

    private int found(int f) {
        finding = f;
        findings[f]++;
        return FINDING;
    }

    private static boolean in(int v, int many) {
        return 0 <= v && v < many;
    }

    // ---- rows, texts

    public int row(int r, int n) {
        if (!in(r, 6) || n > 40) return BAD;
        if (n < 0) return found(5);
        rows[r] = new int[n];
        return n;
    }

    public int lay(int r, int i, int v) {
        int answer = at(r, i);
        if (answer == 1) rows[r][i] = v;
        return answer;
    }

    public int at(int r, int i) {
        if (!in(r, 6)) return BAD;
        if (rows[r] == null) return found(1);
        if (!in(i, rows[r].length)) return found(2);
        asked = rows[r][i];
        return 1;
    }

    public int tear(int r) {
        if (!in(r, 6)) return BAD;
        if (rows[r] == null) return found(1);
        rows[r] = null;
        return 1;
    }

    public int copy(int r, int i, int to, int j, int n) {
        if (!in(r, 6) || !in(to, 6)) return BAD;
        if (n < 0) return found(5);
        if (rows[r] == null || rows[to] == null) return found(1);
        if (i < 0 || j < 0 || (long) i + n > rows[r].length || (long) j + n > rows[to].length) return found(2);
        int[] ahead = rows[r].clone();
        for (int p = 0; p < n; p++) rows[to][j + p] = ahead[i + p];
        return 1;
    }

    public int mean(int r) {
        if (!in(r, 6)) return BAD;
        if (rows[r] == null) return found(1);
        if (rows[r].length == 0) return found(4);
        asked = (int) (Arrays.stream(rows[r]).asLongStream().sum() / rows[r].length);
        return 1;
    }

    public int text(int t, int n) {
        if (!in(t, 4) || n > 40) return BAD;
        if (n < 0) return found(5);
        texts[t] = new byte[n];
        Arrays.fill(texts[t], (byte) 32);
        return n;
    }

    public int put(int t, int i, int v) {
        if (!in(t, 4)) return BAD;
        if (texts[t] == null) return found(1);
        if (!in(i, texts[t].length)) return found(2);
        int was = texts[t][i];
        texts[t][i] = (byte) v;
        return was + 1000;
    }

    // ---- yards

    private static int far(int a, int b, int width) {
        return Math.abs(a % width - b % width) + Math.abs(a / width - b / width);
    }

    private static int reachOf(int length, char one, char other) {
        int reach = length;
        for (char kind : new char[] {one, other}) {
            if (kind == 't') reach++;
            if (kind == 's') reach--;
        }
        return Math.max(1, reach);
    }

    private static int chainsOf(int men, boolean ring) {
        return men < 2 ? 0 : men == 2 ? 1 : ring ? men : men - 1;
    }

    /** Whether what stands ahead of = can go on. */
    private static boolean linesGoOn(String head, boolean ended) {
        String[] parts = head.split("/", -1);
        if (parts.length > 3 || head.replaceAll("[^mtalds]", "").length() > 4) return false;
        for (int n = 0; n < parts.length; n++) {
            boolean whole = ended || n < parts.length - 1;
            if (!parts[n].matches("[.#mtalds]{0,4}") || parts[n].length() > parts[0].length()) return false;
            if (whole && (parts[n].isEmpty() || parts[n].length() != parts[0].length())) return false;
        }
        return true;
    }

    /** How many signs a whole YARD has up to its last CHAIN, by what stands ahead of =. */
    private static int wholeSize(String head, char form) {
        return head.length() + 2 + chainsOf(head.replaceAll("[^mtalds]", "").length(), form == 'r');
    }

    private static boolean chainKept(String head, char form, int k, int length) {
        String signs = head.replace("/", "");
        int width = head.split("/")[0].length();
        List<Integer> men = new ArrayList<>();
        for (int c = 0; c < signs.length(); c++) {
            if ("mtalds".indexOf(signs.charAt(c)) >= 0) men.add(c);
        }
        int a = men.get(k);
        int b = men.get((k + 1) % men.size());
        return far(a, b, width) <= reachOf(length, signs.charAt(a), signs.charAt(b));
    }

    private static boolean goesOn(String prefix) {
        String s = prefix.replaceFirst("^ +", "");
        int eq = s.indexOf('=');
        if (eq < 0) return linesGoOn(s, false);
        String head = s.substring(0, eq);
        if (!linesGoOn(head, true)) return false;
        if (s.length() == eq + 1) return true;
        char form = s.charAt(eq + 1);
        if (form != 'w' && form != 'r') return false;
        int size = wholeSize(head, form);
        for (int p = eq + 2; p < s.length(); p++) {
            char c = s.charAt(p);
            if (p >= size) {
                if (c != ' ') return false;
            } else if (c < '1' || c > '9' || !chainKept(head, form, p - eq - 2, c - '0')) {
                return false;
            }
        }
        return true;
    }

    private static int faultOf(byte[] bytes) {
        String s = new String(bytes, StandardCharsets.ISO_8859_1);
        for (int p = 0; p < s.length(); p++) {
            if (!goesOn(s.substring(0, p + 1))) return p;
        }
        String yard = s.replaceFirst("^ +", "");
        int eq = yard.indexOf('=');
        boolean whole = eq >= 0 && yard.length() > eq + 1
            && yard.length() >= wholeSize(yard.substring(0, eq), yard.charAt(eq + 1));
        return whole ? NONE : s.length();
    }

    public int fault(int t) {
        if (!in(t, 4)) return BAD;
        if (texts[t] == null) return found(1);
        return faultOf(texts[t]);
    }

    public int yard(int t) {
        if (!in(t, 4)) return BAD;
        if (texts[t] == null) return found(1);
        if (faultOf(texts[t]) != NONE) return STATE;
        String[] halves = new String(texts[t], StandardCharsets.ISO_8859_1).trim().split("=");
        lines = halves[0].split("/");
        kinds = halves[0].replaceAll("[^mtalds]", "");
        ring = halves[1].charAt(0) == 'r';
        lengths = new ArrayList<>();
        now = fresh();
        for (int k = 0; k < chainsOf(kinds.length(), ring); k++) {
            lengths.add(halves[1].charAt(1 + k) - '0');
            now.open.add(false);
        }
        String signs = String.join("", lines);
        for (int c = 0; c < signs.length(); c++) {
            if ("mtalds".indexOf(signs.charAt(c)) >= 0) now.stand.add(c);
        }
        Arrays.fill(kept, null);
        quarrels.clear();
        explored.clear();
        return men();
    }

    private int men() {
        return kinds.length();
    }

    private int width() {
        return lines.length == 0 ? 0 : lines[0].length();
    }

    private int cells() {
        return width() * lines.length;
    }

    private boolean wall(int c) {
        return lines[c / width()].charAt(c % width()) == '#';
    }

    private boolean water(int c) {
        return lines.length - 1 - c / width() < now.tide;
    }

    private int other(int k) {
        return (k + 1) % men();
    }

    private int chainReach(int k) {
        return reachOf(lengths.get(k), kinds.charAt(k), kinds.charAt(other(k)));
    }

    private int chainFar(List<Integer> stand, int k) {
        return far(stand.get(k), stand.get(other(k)), width());
    }

    private boolean chainKept(List<Integer> stand, int k) {
        return now.open.get(k) || chainFar(stand, k) <= chainReach(k);
    }

    private boolean allKept(List<Integer> stand) {
        for (int k = 0; k < lengths.size(); k++) {
            if (!chainKept(stand, k)) return false;
        }
        return true;
    }

    private List<Integer> chainsOfMan(int i, boolean openToo) {
        List<Integer> his = new ArrayList<>();
        for (int k = 0; k < lengths.size(); k++) {
            if ((k == i || other(k) == i) && (openToo || !now.open.get(k))) his.add(k);
        }
        return his;
    }

    private int manTells(int i, int what) {
        if (what == 0) return "mtalds".indexOf(kinds.charAt(i));
        if (what == 1) return now.stand.get(i);
        if (what == 2) return chainsOfMan(i, false).size();
        return (int) now.steps.stream().filter(s -> s / 10 == i).count();
    }

    public int man(int i, int what) {
        if (!in(i, men()) || !in(what, 4)) return BAD;
        asked = manTells(i, what);
        return 1;
    }

    private int chainTells(int k, int what) {
        if (what == 0) return lengths.get(k);
        if (what == 1) return chainReach(k);
        if (what == 2) return chainFar(now.stand, k);
        return now.open.get(k) ? 1 : 0;
    }

    public int chain(int k, int what) {
        if (!in(k, lengths.size()) || !in(what, 4)) return BAD;
        asked = chainTells(k, what);
        return 1;
    }

    private int chainedOfKind(int i, char kind) {
        int many = 0;
        for (int k : chainsOfMan(i, false)) {
            if (kinds.charAt(k == i ? other(k) : k) == kind) many++;
        }
        return many;
    }

    public int mark(int i, int kind) {
        if (!in(i, men()) || kind < 1 || kind > 5) return BAD;
        String[] such = {"", "t", "ad", "ls", "d", "s"};
        if (such[kind].indexOf(kinds.charAt(i)) < 0) return found(3);
        if (kind == 1) return chainedOfKind(i, 'a');
        if (kind == 2) return chainedOfKind(i, 't');
        if (kind == 3) return Integer.bitCount(can(i));
        if (kind == 4) {
            return (int) now.stand.stream().filter(c -> far(c, now.stand.get(i), width()) > 2).count();
        }
        return chainsOfMan(i, true).stream().mapToInt(this::chainReach).min().orElse(NONE);
    }

    public int tide(int v) {
        if (!in(v, 4)) return BAD;
        if (cells() == 0) return STATE;
        int was = now.tide;
        now.tide = v;
        return was;
    }

    public int open(int k, int is) {
        if (!in(k, lengths.size()) || !in(is, 2)) return BAD;
        int was = now.open.get(k) ? 1 : 0;
        if (is == 0 && chainFar(now.stand, k) > chainReach(k)) return STATE;
        now.open.set(k, is == 1);
        return was;
    }

    // ---- steps

    private List<Integer> after(List<Integer> stand, int i, int way) {
        char kind = kinds.charAt(i);
        if (kind == 'a' || kind == 'd') return null;
        if ((kind == 'l' || kind == 's') && way % 2 == 0) return null;
        int x = stand.get(i) % width() + new int[] {0, 1, 0, -1}[way];
        int y = stand.get(i) / width() + new int[] {-1, 0, 1, 0}[way];
        if (!in(x, width()) || !in(y, lines.length)) return null;
        int to = y * width() + x;
        if (wall(to) || water(to) || stand.contains(to)) return null;
        List<Integer> then = new ArrayList<>(stand);
        then.set(i, to);
        if (kind == 't') {
            List<Integer> drawn = new ArrayList<>();
            for (int k : chainsOfMan(i, false)) {
                int j = k == i ? other(k) : k;
                if (kinds.charAt(j) == 'a' && !chainKept(then, k)) drawn.add(j);
            }
            if (drawn.size() > 1 || drawn.size() == 1 && water(stand.get(i))) return null;
            if (drawn.size() == 1) then.set(drawn.get(0), stand.get(i));
        }
        return allKept(then) ? then : null;
    }

    private void go(int i, int way, List<Integer> then) {
        now.ahead.add(now.stand);
        now.steps.add(10 * i + way);
        now.stand = then;
    }

    public int step(int i, int way) {
        if (!in(i, men()) || !in(way, 4)) return BAD;
        List<Integer> then = after(now.stand, i, way);
        if (then == null) return STATE;
        if (now.steps.size() == 60) return FULL;
        go(i, way, then);
        return then.get(i);
    }

    public int can(int i) {
        if (!in(i, men())) return BAD;
        int bits = 0;
        for (int way = 0; way < 4; way++) {
            if (after(now.stand, i, way) != null) bits += 1 << way;
        }
        return bits;
    }

    public int undo(int n) {
        if (n < 0 || n > now.steps.size()) return BAD;
        int undone = 0;
        while (now.steps.size() > n) {
            now.stand = now.ahead.remove(now.ahead.size() - 1);
            now.steps.remove(now.steps.size() - 1);
            undone++;
        }
        return undone;
    }

    public int who(int cell) {
        if (!in(cell, cells())) return BAD;
        int i = now.stand.indexOf(cell);
        return i < 0 ? NONE : i;
    }

    public int keep(int k) {
        if (!in(k, 3)) return BAD;
        if (men() == 0) return STATE;
        kept[k] = copyOf(now);
        return now.steps.size();
    }

    public int on(int k) {
        if (!in(k, 3)) return BAD;
        if (kept[k] == null) return found(1);
        now = copyOf(kept[k]);
        return now.steps.size();
    }

    // ---- where to

    private static int compare(List<Integer> a, List<Integer> b) {
        for (int n = 0; n < a.size(); n++) {
            if (!a.get(n).equals(b.get(n))) return a.get(n) - b.get(n);
        }
        return 0;
    }

    /** Each STAND that can be come to, with the first of the shortest ways there, a sign a STEP. */
    private Map<List<Integer>, String> explore(List<Integer> from) {
        String key = from + " " + now.tide + " " + now.open;
        Map<List<Integer>, String> known = explored.get(key);
        if (known != null) return known;
        Map<List<Integer>, String> all = new HashMap<>();
        Map<List<Integer>, String> level = new HashMap<>();
        level.put(from, "");
        while (!level.isEmpty()) {
            all.putAll(level);
            Map<List<Integer>, String> next = new HashMap<>();
            for (Map.Entry<List<Integer>, String> e : level.entrySet()) {
                for (int s = 0; s < 4 * men(); s++) {
                    List<Integer> then = after(e.getKey(), s / 4, s % 4);
                    if (then == null || all.containsKey(then)) continue;
                    String way = e.getValue() + (char) (10 * (s / 4) + s % 4);
                    next.merge(then, way, (p, q) -> p.compareTo(q) <= 0 ? p : q);
                }
            }
            level = next;
        }
        if (explored.size() > 60) explored.clear();
        explored.put(key, all);
        return all;
    }

    List<Integer> someStandAt(int steps) {
        for (Map.Entry<List<Integer>, String> e : explore(now.stand).entrySet()) {
            if (e.getValue().length() == steps) return e.getKey();
        }
        return null;
    }

    private interface Goal {
        boolean met(List<Integer> stand);
    }

    private String firstWay(List<Integer> from, Goal goal) {
        String best = null;
        for (Map.Entry<List<Integer>, String> e : explore(from).entrySet()) {
            String way = e.getValue();
            if (!goal.met(e.getKey())) continue;
            if (best == null || way.length() < best.length()
                || way.length() == best.length() && way.compareTo(best) < 0) best = way;
        }
        return best;
    }

    private int refusedAim(int r) {
        if (men() == 0) return STATE;
        if (rows[r] == null) return found(1);
        if (rows[r].length != men()) return found(5);
        for (int c : rows[r]) {
            if (c != NONE && !in(c, cells())) return found(3);
        }
        return 0;
    }

    private String wayLike(int[] aim) {
        return firstWay(now.stand, stand -> {
            for (int i = 0; i < aim.length; i++) {
                if (aim[i] != NONE && aim[i] != stand.get(i)) return false;
            }
            return true;
        });
    }

    public int near(int r) {
        if (!in(r, 6)) return BAD;
        int refused = refusedAim(r);
        if (refused != 0) return refused;
        String way = wayLike(rows[r]);
        if (way == null) return NONE;
        asked = way.isEmpty() ? NONE : way.charAt(0);
        return way.length();
    }

    public int path(int r, int to) {
        if (!in(r, 6) || !in(to, 6)) return BAD;
        int refused = refusedAim(r);
        if (refused != 0) return refused;
        String way = wayLike(rows[r]);
        if (way == null || way.length() > 40) return NONE;
        rows[to] = way.chars().toArray();
        return way.length();
    }

    public int reach() {
        if (men() == 0) return STATE;
        Map<List<Integer>, String> all = explore(now.stand);
        asked = all.values().stream().mapToInt(String::length).max().getAsInt();
        return all.size();
    }

    public int where(int i) {
        if (!in(i, men())) return BAD;
        TreeMap<Integer, Integer> fewest = new TreeMap<>();
        explore(now.stand).forEach((stand, way) -> fewest.merge(stand.get(i), way.length(), Math::min));
        asked = fewest.values().stream().mapToInt(n -> n).max().getAsInt();
        return fewest.keySet().stream().mapToInt(c -> 1 << c).sum();
    }

    private static int sizeOr(String way) {
        return way == null ? NONE : way.length();
    }

    public int meet(int i, int j) {
        if (!in(i, men()) || !in(j, men()) || i == j) return BAD;
        return sizeOr(firstWay(now.stand, stand -> far(stand.get(i), stand.get(j), width()) == 1));
    }

    public int window(int x) {
        if (!in(x, width())) return BAD;
        if (men() == 0) return STATE;
        return sizeOr(firstWay(now.stand, stand -> stand.stream().allMatch(c -> c % width() == x)));
    }

    private List<Integer> list(int[] row) {
        List<Integer> all = new ArrayList<>();
        for (int v : row) all.add(v);
        return all;
    }

    private boolean sound(List<Integer> stand) {
        for (int c : stand) {
            if (!in(c, cells()) || wall(c)) return false;
        }
        return new HashSet<>(stand).size() == stand.size() && allKept(stand);
    }

    public int comes(int r, int q) {
        if (!in(r, 6) || !in(q, 6)) return BAD;
        if (men() == 0) return STATE;
        if (rows[r] == null || rows[q] == null) return found(1);
        if (rows[r].length != men() || rows[q].length != men()) return found(5);
        if (!sound(list(rows[r])) || !sound(list(rows[q]))) return found(3);
        return explore(list(rows[r])).containsKey(list(rows[q])) ? 1 : 0;
    }

    // ---- wants

    private int refusedWants(int r) {
        if (men() == 0) return STATE;
        if (rows[r] == null) return found(1);
        if (rows[r].length > 5) return found(5);
        for (int v : rows[r]) {
            if (v < 0 || !in(v / 100, men()) || !in(v % 100, cells())) return found(3);
        }
        return 0;
    }

    /** How many wants are met, and by how many STEPS, in the order given. */
    private int[] meetAll(List<Integer> wants) {
        List<Integer> stand = now.stand;
        int steps = 0;
        for (int n = 0; n < wants.size(); n++) {
            List<Integer> best = null;
            int fewest = 0;
            for (Map.Entry<List<Integer>, String> e : explore(stand).entrySet()) {
                if (e.getKey().get(wants.get(n) / 100) != wants.get(n) % 100) continue;
                int size = e.getValue().length();
                if (best == null || size < fewest || size == fewest && compare(e.getKey(), best) < 0) {
                    best = e.getKey();
                    fewest = size;
                }
            }
            if (best == null) return new int[] {n, steps};
            steps += fewest;
            stand = best;
        }
        return new int[] {wants.size(), steps};
    }

    public int fetch(int r) {
        if (!in(r, 6)) return BAD;
        int refused = refusedWants(r);
        if (refused != 0) return refused;
        int[] met = meetAll(list(rows[r]));
        asked = met[1];
        return met[0];
    }

    private static List<List<Integer>> orders(int n) {
        List<List<Integer>> all = new ArrayList<>();
        all.add(new ArrayList<>());
        for (int size = 0; size < n; size++) {
            List<List<Integer>> longer = new ArrayList<>();
            for (List<Integer> one : all) {
                for (int v = 0; v < n; v++) {
                    if (one.contains(v)) continue;
                    List<Integer> next = new ArrayList<>(one);
                    next.add(v);
                    longer.add(next);
                }
            }
            all = longer;
        }
        return all;
    }

    public int order(int r, int to) {
        if (!in(r, 6) || !in(to, 6)) return BAD;
        int refused = refusedWants(r);
        if (refused != 0) return refused;
        List<Integer> best = null;
        int[] most = null;
        for (List<Integer> one : orders(rows[r].length)) {
            List<Integer> wants = new ArrayList<>();
            for (int place : one) wants.add(rows[r][place]);
            int[] met = meetAll(wants);
            if (most == null || met[0] > most[0] || met[0] == most[0] && met[1] < most[1]) {
                most = met;
                best = one;
            }
        }
        rows[to] = best.stream().mapToInt(v -> v).toArray();
        return most[0];
    }

    // ---- keys, files, steps judged

    private int refusedKeys(int r) {
        if (rows[r] == null) return found(1);
        if (rows[r].length > 8) return found(5);
        for (int v : rows[r]) {
            if (v < 0 || v >= 1 << lengths.size()) return found(3);
        }
        return 0;
    }

    private int fewestKeys(int[] keys, List<Integer> due) {
        for (int many = 0; many <= keys.length; many++) {
            for (int set = 0; set < 1 << keys.length; set++) {
                if (Integer.bitCount(set) != many) continue;
                HashSet<Integer> opened = new HashSet<>();
                for (int n = 0; n < keys.length; n++) {
                    for (int k = 0; k < lengths.size(); k++) {
                        if ((set >> n & 1) == 1 && (keys[n] >> k & 1) == 1) opened.add(k);
                    }
                }
                if (opened.containsAll(due)) {
                    asked = set;
                    return many;
                }
            }
        }
        return NONE;
    }

    public int keys(int r) {
        if (!in(r, 6)) return BAD;
        if (men() == 0) return STATE;
        int refused = refusedKeys(r);
        if (refused != 0) return refused;
        List<Integer> due = new ArrayList<>();
        for (int k = 0; k < lengths.size(); k++) {
            if (!now.open.get(k)) due.add(k);
        }
        return fewestKeys(rows[r], due);
    }

    public int free(int i, int r) {
        if (!in(i, men()) || !in(r, 6)) return BAD;
        int refused = refusedKeys(r);
        return refused != 0 ? refused : fewestKeys(rows[r], chainsOfMan(i, false));
    }

    public int filed(int r) {
        if (!in(r, 6)) return BAD;
        if (men() == 0) return STATE;
        if (rows[r] == null) return found(1);
        if (rows[r].length % men() != 0 || rows[r].length > 8 * men()) return found(5);
        for (int c : rows[r]) {
            if (!in(c, cells())) return found(3);
        }
        int could = 0;
        for (int k = 0; k < lengths.size(); k++) {
            if (!now.open.get(k) && keptBut(rows[r], k)) could += 1 << k;
        }
        asked = keptBut(rows[r], -1) ? 1 : 0;
        return could;
    }

    private boolean keptBut(int[] seen, int but) {
        for (int p = 0; p < seen.length; p += men()) {
            List<Integer> stand = list(Arrays.copyOfRange(seen, p, p + men()));
            for (int k = 0; k < lengths.size(); k++) {
                if (k != but && !chainKept(stand, k)) return false;
            }
        }
        return true;
    }

    public int judge(int r) {
        if (!in(r, 6)) return BAD;
        if (men() == 0) return STATE;
        if (rows[r] == null) return found(1);
        for (int v : rows[r]) {
            if (v < 0 || !in(v / 10, men()) || v % 10 > 3) return found(3);
        }
        List<Integer> stand = now.stand;
        int done = 0;
        for (int v : rows[r]) {
            List<Integer> then = after(stand, v / 10, v % 10);
            if (then == null) break;
            stand = then;
            done++;
        }
        asked = 0;
        for (int k = 0; k < lengths.size(); k++) asked += chainFar(stand, k);
        return done;
    }

    // ---- quarrels, lots

    public int quarrel(int i, int j) {
        if (!in(i, men()) || !in(j, men()) || i == j) return BAD;
        if (quarrels.size() == 8) return FULL;
        quarrels.add(new int[] {i, j});
        return quarrels.size() - 1;
    }

    public int peace(int n) {
        if (n < 0 || n > quarrels.size()) return BAD;
        int over = quarrels.size() - n;
        quarrels.subList(n, quarrels.size()).clear();
        return over;
    }

    public int easter(int r) {
        if (!in(r, 6)) return BAD;
        if (men() == 0) return STATE;
        List<Integer> best = null;
        int fewest = 0;
        for (List<Integer> one : orders(men())) {
            int many = 0;
            for (int[] q : quarrels) {
                int apart = Math.abs(one.indexOf(q[0]) - one.indexOf(q[1]));
                if (apart == 1 || ring && men() > 2 && apart == men() - 1) many++;
            }
            if (best == null || many < fewest) {
                best = one;
                fewest = many;
            }
        }
        rows[r] = best.stream().mapToInt(v -> v).toArray();
        return fewest;
    }

    public int lots(int n, int seed) {
        if (n < 1 || n > 60 || seed < 1 || seed > 2147483646) return BAD;
        if (men() == 0) return STATE;
        if (now.steps.size() + n > 60) return FULL;
        int steps = 0;
        long lot = seed;
        for (int drawn = 0; drawn < n; drawn++) {
            lot = 48271L * lot % 2147483647L;
            if (step((int) (lot % men()), (int) (lot / 64 % 4)) >= 0) steps++;
        }
        return steps;
    }

    // ---- what is told

    public int asked() {
        return asked;
    }

    private long[] part() {
        long upper = 0;
        for (int i = 0; i < men(); i++) upper += Integer.bitCount(can(i));
        long lower = Math.max(1, 4L * men());
        long a = lower;
        long b = upper;
        while (b != 0) {
            long rest = a % b;
            a = b;
            b = rest;
        }
        return new long[] {upper / a, lower / a};
    }

    public long upper() {
        return part()[0];
    }

    public long lower() {
        return part()[1];
    }

    public int count(int what) {
        if (!in(what, 10)) return BAD;
        return new int[] {men(), cells(), now.steps.size(), lengths.size(),
            (int) now.open.stream().filter(o -> o).count(),
            kinds.replaceAll("[^ad]", "").length(),
            (int) Arrays.stream(rows).filter(r -> r != null).count(),
            (int) Arrays.stream(texts).filter(t -> t != null).count(),
            quarrels.size(),
            (int) Arrays.stream(kept).filter(k -> k != null).count()}[what];
    }

    public int finding() {
        return finding;
    }

    public int findings(int f) {
        return f < 1 || f > 5 ? BAD : findings[f];
    }

    public long digest() {
        List<Long> all = new ArrayList<>();
        for (int what = 0; what < 10; what++) all.add((long) count(what));
        all.add((long) now.tide);
        for (int c = 0; c < cells(); c++) all.add(wall(c) ? 1L : 0L);
        for (int i = 0; i < men(); i++) {
            for (int what = 0; what < 4; what++) all.add((long) manTells(i, what));
        }
        for (int k = 0; k < lengths.size(); k++) {
            for (int what = 0; what < 4; what++) all.add((long) chainTells(k, what));
        }
        for (int[] q : quarrels) {
            all.add((long) q[0]);
            all.add((long) q[1]);
        }
        for (int s : now.steps) all.add((long) s);
        for (Kept k : kept) all.add(k == null ? -1L : k.steps.size());
        for (int[] r : rows) {
            all.add(r == null ? -1L : r.length);
            if (r != null) for (int v : r) all.add((long) v);
        }
        for (byte[] t : texts) {
            all.add(t == null ? -1L : t.length);
            if (t != null) for (byte v : t) all.add((long) v);
        }
        long h = 17;
        for (long v : all) h = 31 * h + v;
        return h;
    }
}
