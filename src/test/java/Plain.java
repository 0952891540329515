import java.util.ArrayList;
import java.util.Arrays;
import java.util.Comparator;
import java.util.HashSet;
import java.util.List;
import java.util.Set;
import java.util.TreeSet;
import java.util.regex.Matcher;
import java.util.regex.Pattern;

/**
 * The document once more, in the most literal way: it tries out all settings, all sets of laws, all ways
 * to break words. It is slow, shares no way of working with HandsPicture, and is there to be compared with it.
 */
final class Plain {
    static final int BAD = -1, STATE = -2, FULL = -3, NONE = -9;
    static final List<String> NAMES = List.of("level", "plumb", "right", "under", "wide", "tall");

    static final class Law {
        int word, a, b, n, weight, where;

        boolean onX() {
            return word == 1 || word == 2 || word == 4;
        }

        boolean atLeast() {
            return word == 2 || word == 3;
        }

        boolean holds(int[] v) {
            return atLeast() ? v[b] >= v[a] + n : v[b] == v[a] + n;
        }
    }

    static final class Change {
        int number, hand, what, of, x, y, stamp;
        boolean beforeLaws;
        Set<Integer> saw;
    }

    static final class Shown {
        int[] x = {5, 5, 5, 5, 5, 5}, y = {5, 5, 5, 5, 5, 5};
        boolean[] on;
    }

    static final class Best {
        int[] values;
        int weight = -1, moved;
    }

    private StringBuilder text = new StringBuilder();
    private List<Law> laws = new ArrayList<>();
    private final List<Change> changes = new ArrayList<>();
    private final List<Set<Integer>> seen = List.of(new TreeSet<>(), new TreeSet<>(), new TreeSet<>());
    private final List<int[]> lines = new ArrayList<>();
    private final List<Integer> words = new ArrayList<>();
    private long trace = 0;

    private static boolean in(int v, int lo, int hi) {
        return lo <= v && v <= hi;
    }

    // ---- laws

    int type(long v, int n) {
        if (!in(n, 1, 8)) return BAD;
        if (text.length() + n > 400) return FULL;
        StringBuilder reversed = new StringBuilder();
        for (int i = 0; i < n; i++) {
            reversed.append((char) (v & 255));
            v >>= 8;
        }
        text.append(reversed.reverse());
        return text.length();
    }

    int clear() {
        int had = text.length();
        text = new StringBuilder();
        return had;
    }

    private static final Pattern TOKEN = Pattern.compile("[a-z]+|[0-9]+|[^ ]", Pattern.DOTALL);
    private List<String> tokens;
    private List<Integer> places;
    private int at;

    private static boolean isNumber(String t) {
        return t.matches("0|[1-9][0-9]?");
    }

    private boolean nextIs(String regex) {
        return at < tokens.size() && tokens.get(at).matches(regex);
    }

    private boolean nextIsNumber(int lo, int hi) {
        return at < tokens.size() && isNumber(tokens.get(at)) && in(Integer.parseInt(tokens.get(at)), lo, hi);
    }

    private Law readLaw(int wishes) {
        Law law = new Law();
        if (nextIs("wish")) {
            if (wishes == 6) return null;
            at++;
            if (!nextIsNumber(1, 9)) return null;
            law.weight = Integer.parseInt(tokens.get(at++));
        }
        if (nextIs("where")) {
            at++;
            if (!nextIsNumber(2, 20)) return null;
            law.where = Integer.parseInt(tokens.get(at++));
        }
        if (!nextIs("level|plumb|right|under|wide|tall")) return null;
        law.word = NAMES.indexOf(tokens.get(at++));
        if (!nextIs("[A-F]")) return null;
        law.a = tokens.get(at++).charAt(0) - 'A';
        if (!nextIs("[A-F]") || tokens.get(at).charAt(0) - 'A' == law.a) return null;
        law.b = tokens.get(at++).charAt(0) - 'A';
        if (law.word > 1) {
            if (!nextIsNumber(0, 19)) return null;
            law.n = Integer.parseInt(tokens.get(at++));
        }
        if (!nextIs(";")) return null;
        at++;
        return law;
    }

    int laws() {
        tokens = new ArrayList<>();
        places = new ArrayList<>();
        Matcher m = TOKEN.matcher(text);
        while (m.find()) {
            tokens.add(m.group());
            places.add(m.start());
        }
        at = 0;
        List<Law> read = new ArrayList<>();
        int wishes = 0;
        while (at < tokens.size()) {
            Law law = read.size() == 12 ? null : readLaw(wishes);
            if (law == null) return -10 - (at < tokens.size() ? places.get(at) : text.length());
            if (law.weight > 0) wishes++;
            read.add(law);
        }
        laws = read;
        text = new StringBuilder();
        for (Change c : changes) c.beforeLaws = true;
        return laws.size();
    }

    int law(int i, int what) {
        if (!in(i, 0, laws.size() - 1) || !in(what, 0, 5)) return BAD;
        Law l = laws.get(i);
        return new int[] {l.word, l.a, l.b, l.n, l.weight, l.where}[what];
    }

    // ---- hands

    private int add(int hand, int what, int of, int x, int y) {
        Change c = new Change();
        c.number = changes.size();
        c.hand = hand;
        c.what = what;
        c.of = of;
        c.x = x;
        c.y = y;
        c.saw = new HashSet<>(seen.get(hand));
        c.stamp = 1;
        for (int s : c.saw) c.stamp = Math.max(c.stamp, changes.get(s).stamp + 1);
        changes.add(c);
        seen.get(hand).add(c.number);
        return c.number;
    }

    int move(int hand, int point, int x, int y) {
        if (!in(hand, 0, 2) || !in(point, 0, 5) || !in(x, 0, 19) || !in(y, 0, 19)) return BAD;
        return changes.size() == 60 ? FULL : add(hand, 0, point, x, y);
    }

    int lay(int hand, int law, int on) {
        if (!in(hand, 0, 2) || !in(law, 0, laws.size() - 1) || !in(on, 0, 1)) return BAD;
        return changes.size() == 60 ? FULL : add(hand, 1 + on, law, 0, 0);
    }

    private boolean takenBack(int hand, int change, int stamp) {
        for (int s : seen.get(hand)) {
            Change c = changes.get(s);
            if (c.what == 3 && c.of == change && c.stamp <= stamp) return true;
        }
        return false;
    }

    int back(int hand, int change) {
        if (!in(hand, 0, 2) || !in(change, 0, changes.size() - 1)) return BAD;
        Change c = changes.get(change);
        if (c.hand != hand || c.what == 3) return BAD;
        if (takenBack(hand, change, 1000)) return STATE;
        return changes.size() == 60 ? FULL : add(hand, 3, change, 0, 0);
    }

    int join(int hand, int other) {
        if (!in(hand, 0, 2) || !in(other, 0, 2) || hand == other) return BAD;
        int before = seen.get(hand).size();
        seen.get(hand).addAll(seen.get(other));
        return seen.get(hand).size() - before;
    }

    int change(int i, int what) {
        if (!in(i, 0, changes.size() - 1) || !in(what, 0, 5)) return BAD;
        Change c = changes.get(i);
        return new int[] {c.hand, c.what, c.of, c.x, c.y, c.stamp}[what];
    }

    int sees(int hand, int change) {
        if (!in(hand, 0, 2) || !in(change, 0, changes.size() - 1)) return BAD;
        return seen.get(hand).contains(change) ? 1 : 0;
    }

    private Shown show(int hand, int stamp) {
        List<Change> those = new ArrayList<>();
        for (int s : seen.get(hand)) {
            if (changes.get(s).stamp <= stamp && !takenBack(hand, s, stamp)) those.add(changes.get(s));
        }
        those.sort(Comparator.<Change>comparingInt(c -> c.stamp).thenComparingInt(c -> c.hand));
        Shown shown = new Shown();
        shown.on = new boolean[laws.size()];
        Arrays.fill(shown.on, true);
        for (Change c : those) {
            if (c.what == 0) {
                shown.x[c.of] = c.x;
                shown.y[c.of] = c.y;
            } else if (c.what != 3 && !c.beforeLaws) {
                shown.on[c.of] = c.what == 2;
            }
        }
        return shown;
    }

    int stands(int hand, int stamp, int point, int what) {
        if (!in(hand, 0, 2) || stamp < 0 || !in(point, 0, 5) || !in(what, 0, 1)) return BAD;
        Shown shown = show(hand, stamp);
        return what == 0 ? shown.x[point] : shown.y[point];
    }

    int on(int hand, int stamp) {
        if (!in(hand, 0, 2) || stamp < 0) return BAD;
        return bits(show(hand, stamp).on);
    }

    private static int bits(boolean[] on) {
        int bits = 0;
        for (int i = 0; i < on.length; i++) if (on[i]) bits += 1 << i;
        return bits;
    }

    int both(int hand) {
        if (!in(hand, 0, 2)) return BAD;
        boolean[] points = new boolean[6];
        for (int i : seen.get(hand)) {
            for (int j : seen.get(hand)) {
                Change c = changes.get(i), d = changes.get(j);
                if (c.what == 0 && d.what == 0 && c.of == d.of && c.hand != d.hand && !takenBack(hand, i, 1000)
                        && !takenBack(hand, j, 1000) && !c.saw.contains(j) && !d.saw.contains(i)) {
                    points[c.of] = true;
                }
            }
        }
        return bits(points);
    }

    int unlike(int hand, int other) {
        if (!in(hand, 0, 2) || !in(other, 0, 2)) return BAD;
        Shown p = show(hand, 1000), q = show(other, 1000);
        int n = 0;
        for (int i = 0; i < 6; i++) if (p.x[i] != q.x[i] || p.y[i] != q.y[i]) n++;
        for (int i = 0; i < laws.size(); i++) if (p.on[i] != q.on[i]) n++;
        return n;
    }

    // ---- settings

    private List<Law> counting(int hand, int size) {
        boolean[] on = show(hand, 1000).on;
        List<Law> found = new ArrayList<>();
        for (int i = 0; i < laws.size(); i++) {
            Law l = laws.get(i);
            if (on[i] && (l.where == 0 || size < l.where)) found.add(l);
        }
        return found;
    }

    /** How many settings a brute search of this question would try; the caller may find them too many. */
    long effort(int hand, int size) {
        if (!in(hand, 0, 2) || !in(size, 2, 20)) return 0;
        return (long) Math.pow(size, touched(hand, size, true).size())
                + (long) Math.pow(size, touched(hand, size, false).size());
    }

    private List<Integer> touched(int hand, int size, boolean onX) {
        TreeSet<Integer> found = new TreeSet<>();
        for (Law l : counting(hand, size)) {
            if (l.onX() == onX) {
                found.add(l.a);
                found.add(l.b);
            }
        }
        return new ArrayList<>(found);
    }

    /** All values of the points that laws speak of, the first first; other points stay, or come to the edge. */
    Best bestOf(int hand, int size, boolean onX) {
        Shown shown = show(hand, 1000);
        int[] stood = onX ? shown.x : shown.y;
        List<Integer> free = touched(hand, size, onX);
        List<Law> mine = new ArrayList<>();
        for (Law l : counting(hand, size)) if (l.onX() == onX) mine.add(l);
        int[] v = new int[6];
        for (int i = 0; i < 6; i++) v[i] = free.contains(i) ? 0 : Math.min(stood[i], size - 1);
        Best best = new Best();
        while (true) {
            consider(v, stood, mine, best);
            int k = free.size() - 1;
            while (k >= 0 && v[free.get(k)] == size - 1) v[free.get(k--)] = 0;
            if (k < 0) return best;
            v[free.get(k)]++;
        }
    }

    private static void consider(int[] v, int[] stood, List<Law> mine, Best best) {
        int weight = 0, moved = 0;
        for (Law l : mine) {
            boolean holds = l.holds(v);
            if (!holds && l.weight == 0) return;
            if (holds) weight += l.weight;
        }
        for (int i = 0; i < 6; i++) moved += Math.abs(v[i] - stood[i]);
        if (weight > best.weight || weight == best.weight && moved < best.moved) {
            best.weight = weight;
            best.moved = moved;
            best.values = v.clone();
        }
    }

    int set(int hand, int size, int point, int what) {
        if (!in(hand, 0, 2) || !in(size, 2, 20) || !in(point, 0, 5) || !in(what, 0, 1)) return BAD;
        Best x = bestOf(hand, size, true), y = bestOf(hand, size, false);
        if (x.values == null || y.values == null) return NONE;
        return (what == 0 ? x : y).values[point];
    }

    int about(int hand, int size, int what) {
        if (!in(hand, 0, 2) || !in(size, 2, 20) || !in(what, 0, 2)) return BAD;
        Best x = bestOf(hand, size, true), y = bestOf(hand, size, false);
        if (x.values == null || y.values == null) return NONE;
        if (what == 0) return x.weight + y.weight;
        if (what == 1) return x.moved + y.moved;
        int bits = 0;
        for (Law l : counting(hand, size)) {
            if (l.holds((l.onX() ? x : y).values)) bits |= 1 << laws.indexOf(l);
        }
        return bits;
    }

    /** Lifts what is too low until nothing is, or something is above the roof. */
    private static boolean canHold(List<Law> some, int roof) {
        for (boolean onX : new boolean[] {true, false}) {
            int[] v = new int[6];
            boolean again = true;
            while (again) {
                again = false;
                for (Law l : some) {
                    if (l.onX() != onX) continue;
                    if (v[l.b] < v[l.a] + l.n) {
                        v[l.b] = v[l.a] + l.n;
                        again = true;
                    }
                    if (!l.atLeast() && v[l.a] < v[l.b] - l.n) {
                        v[l.a] = v[l.b] - l.n;
                        again = true;
                    }
                    if (v[l.a] > roof || v[l.b] > roof) return false;
                }
            }
        }
        return true;
    }

    int quarrel(int hand, int size, int what) {
        if (!in(hand, 0, 2) || !in(size, 2, 20) || !in(what, 0, 1)) return BAD;
        List<Law> firm = new ArrayList<>();
        for (Law l : counting(hand, size)) if (l.weight == 0) firm.add(l);
        int fewest = 99, least = 0;
        for (int set = 0; set < 1 << laws.size(); set++) {
            if (Integer.bitCount(set) >= fewest) continue;
            List<Law> some = new ArrayList<>();
            for (int i = 0; i < laws.size(); i++) if ((set >> i & 1) == 1) some.add(laws.get(i));
            if (firm.containsAll(some) && !canHold(some, size - 1)) {
                fewest = some.size();
                least = set;
            }
        }
        return fewest == 99 ? NONE : what == 0 ? fewest : least;
    }

    private static Law atLeastLaw(Law like, int a, int b, int n) {
        Law l = new Law();
        l.word = like.onX() ? 2 : 3;
        l.a = a;
        l.b = b;
        l.n = n;
        return l;
    }

    int forced(int hand, int size, int law) {
        if (!in(hand, 0, 2) || !in(size, 2, 20) || !in(law, 0, laws.size() - 1)) return BAD;
        List<Law> counting = counting(hand, size);
        Law it = laws.get(law);
        if (!counting.contains(it)) return STATE;
        List<Law> others = new ArrayList<>();
        for (Law l : counting) if (l.weight == 0 && l != it) others.add(l);
        others.add(atLeastLaw(it, it.b, it.a, 1 - it.n));
        if (canHold(others, 2000)) return 0;
        others.remove(others.size() - 1);
        others.add(atLeastLaw(it, it.a, it.b, it.n + 1));
        return !it.atLeast() && canHold(others, 2000) ? 0 : 1;
    }

    private static int grow(int from, List<Law> by) {
        int found = from, before;
        do {
            before = found;
            for (Law l : by) {
                if ((found >> l.a & 1) == 1) found |= 1 << l.b;
                if ((found >> l.b & 1) == 1) found |= 1 << l.a;
            }
        } while (found != before);
        return found;
    }

    int knot(int hand, int size, int point, int what) {
        if (!in(hand, 0, 2) || !in(size, 2, 20) || !in(point, 0, 5) || !in(what, 0, 1)) return BAD;
        int knot = grow(1 << point, counting(hand, size));
        if (what == 0) return knot;
        List<Law> onX = new ArrayList<>(), onY = new ArrayList<>();
        for (Law l : counting(hand, size)) if (l.weight == 0 && !l.atLeast()) (l.onX() ? onX : onY).add(l);
        Set<Integer> heapsX = new HashSet<>(), heapsY = new HashSet<>();
        for (int i = 0; i < 6; i++) {
            if ((knot >> i & 1) == 1) {
                heapsX.add(grow(1 << i, onX));
                heapsY.add(grow(1 << i, onY));
            }
        }
        return heapsX.size() + heapsY.size();
    }

    // ---- lines, words

    int line(int from, int to) {
        if (!in(from, 0, 5) || !in(to, 0, 5) || from == to) return BAD;
        if (lines.size() == 8) return FULL;
        lines.add(new int[] {from, to});
        return lines.size() - 1;
    }

    int ink(int kind, int line, int hand) {
        if (!in(kind, 0, 4) || !in(line, 0, lines.size() - 1) || !in(hand, 0, 2)) return BAD;
        Shown s = show(hand, 1000);
        int[] l = lines.get(line);
        int dx = Math.abs(s.x[l[0]] - s.x[l[1]]), dy = Math.abs(s.y[l[0]] - s.y[l[1]]);
        int asLine = 1 + Math.max(dx, dy), asArc = 1 + dx + dy;
        trace += new int[] {1, 11, 111, 1011, 10111}[kind];
        return new int[] {1, asLine, asArc, asLine / 2 + asLine % 2, asArc + asArc}[kind];
    }

    /** The number r with r - 1/2 at most z by n, and that below r + 1/2. */
    private static int rounded(int z, int n) {
        for (int r = -50; r <= 50; r++) if (2 * r * n - n <= 2 * z && 2 * z < 2 * r * n + n) return r;
        throw new IllegalStateException("no such number");
    }

    private Set<Integer> dotsOf(int hand, int line) {
        Shown s = show(hand, 1000);
        int[] l = lines.get(line);
        int x = s.x[l[0]], y = s.y[l[0]], dx = s.x[l[1]] - x, dy = s.y[l[1]] - y;
        int n = Math.max(Math.abs(dx), Math.abs(dy));
        Set<Integer> dots = new HashSet<>();
        if (n == 0) dots.add(x * 100 + y);
        for (int t = 0; n > 0 && t <= n; t++) dots.add(rounded(x * n + t * dx, n) * 100 + rounded(y * n + t * dy, n));
        return dots;
    }

    int dots(int hand, int line) {
        if (!in(hand, 0, 2) || !in(line, -1, lines.size() - 1)) return BAD;
        Set<Integer> dots = new HashSet<>();
        for (int i = 0; i < lines.size(); i++) if (line == -1 || line == i) dots.addAll(dotsOf(hand, i));
        return dots.size();
    }

    int meet(int hand, int x, int y) {
        if (!in(hand, 0, 2) || !in(x, 0, 19) || !in(y, 0, 19)) return BAD;
        int n = 0;
        for (int i = 0; i < lines.size(); i++) if (dotsOf(hand, i).contains(x * 100 + y)) n++;
        return n;
    }

    int word(int width) {
        if (!in(width, 1, 20)) return BAD;
        if (words.size() == 12) return FULL;
        words.add(width);
        return words.size();
    }

    private int squares;

    /** First words of rows, of the best of all ways to break; null: none. */
    private List<Integer> broken(int box) {
        squares = 0;
        if (words.isEmpty()) return List.of();
        List<Integer> best = null;
        int least = Integer.MAX_VALUE;
        for (int breaks = 0; breaks < 1 << words.size() - 1; breaks++) {
            List<Integer> firsts = new ArrayList<>(List.of(0));
            for (int i = 1; i < words.size(); i++) if ((breaks >> i - 1 & 1) == 1) firsts.add(i);
            int cost = cost(firsts, box);
            if (cost >= 0 && (cost < least || cost == least && fuller(firsts, best))) {
                best = firsts;
                least = cost;
            }
        }
        squares = least;
        return best;
    }

    private int cost(List<Integer> firsts, int box) {
        int sum = 0;
        for (int r = 0; r < firsts.size(); r++) {
            boolean isLast = r + 1 == firsts.size();
            int end = isLast ? words.size() : firsts.get(r + 1), width = -1;
            for (int i = firsts.get(r); i < end; i++) width += 1 + words.get(i);
            if (width > box) return -1;
            if (!isLast) sum += (box - width) * (box - width);
        }
        return sum;
    }

    private static boolean fuller(List<Integer> a, List<Integer> b) {
        for (int r = 1; r < Math.min(a.size(), b.size()); r++) {
            if (!a.get(r).equals(b.get(r))) return a.get(r) > b.get(r);
        }
        return a.size() < b.size();
    }

    int rows(int box, int what) {
        if (!in(box, 1, 80) || !in(what, 0, 1)) return BAD;
        List<Integer> firsts = broken(box);
        return firsts == null ? NONE : what == 0 ? firsts.size() : squares;
    }

    int row(int box, int i) {
        if (!in(box, 1, 80) || i < 0) return BAD;
        List<Integer> firsts = broken(box);
        return firsts == null || i >= firsts.size() ? NONE : firsts.get(i);
    }

    int count(int what) {
        if (!in(what, 0, 5)) return BAD;
        int greatest = 0;
        for (Change c : changes) greatest = Math.max(greatest, c.stamp);
        return new int[] {laws.size(), changes.size(), lines.size(), words.size(), text.length(), greatest}[what];
    }

    long trace() {
        return trace;
    }
}
