import java.util.ArrayList;
import java.util.Arrays;
import java.util.HashMap;
import java.util.List;
import java.util.Map;
import java.util.TreeSet;
import java.util.function.BiPredicate;
import java.util.function.IntPredicate;
import java.util.regex.Matcher;
import java.util.regex.Pattern;

/**
 * The document once more, word by word and without any care for speed: lists and sets in place of bits, so
 * that a slip in the program is not made here too.
 */
final class PlainSets {
    static final class Fam {
        final int n;
        final TreeSet<Integer> sets;

        Fam(int n, TreeSet<Integer> sets) {
            this.n = n;
            this.sets = sets;
        }

        boolean same(Fam o) {
            return o != null && o.n == n && o.sets.equals(sets);
        }
    }

    static final class TooLong extends RuntimeException {
        private static final long serialVersionUID = 1L;
    }

    private final Fam[] slots = new Fam[3];
    private final List<Fam[]> acts = new ArrayList<>();
    private String tape = "";
    private String out = "";
    private int faultNumber = 0;
    private int faultPlace = -1;

    // ---- small words

    private Fam at(int slot) {
        return slot < 0 || slot > 2 ? null : slots[slot];
    }

    private static boolean in(int x, int least, int most) {
        return x >= least && x <= most;
    }

    private static boolean isSet(int n, int set) {
        return in(set, 0, (1 << n) - 1);
    }

    private static List<Integer> pointsOf(int set) {
        List<Integer> list = new ArrayList<>();
        for (int p = 0; p < 31; p++) {
            if ((set & (1 << p)) != 0) {
                list.add(p);
            }
        }
        return list;
    }

    // Asked so often that they are worked out once.
    private static final boolean[][] MEET = new boolean[128][128];
    private static final boolean[][] WITHIN = new boolean[128][128];

    static {
        for (int a = 0; a < 128; a++) {
            for (int b = 0; b < 128; b++) {
                List<Integer> shared = pointsOf(a);
                shared.retainAll(pointsOf(b));
                MEET[a][b] = !shared.isEmpty();
                WITHIN[a][b] = pointsOf(b).containsAll(pointsOf(a));
            }
        }
    }

    private static boolean hasPoint(int set, int p) {
        return set / (1 << p) % 2 == 1;
    }

    private static int lev(int set) {
        int points = 0;
        for (int left = set; left > 0; left /= 2) {
            points += left % 2;
        }
        return points;
    }

    private static boolean meet(int a, int b) {
        return MEET[a][b];
    }

    private static boolean within(int a, int b) {
        return WITHIN[a][b];
    }

    private static TreeSet<Integer> every(int n, IntPredicate good) {
        TreeSet<Integer> all = new TreeSet<>();
        for (int s = 0; s < (1 << n); s++) {
            if (good.test(s)) {
                all.add(s);
            }
        }
        return all;
    }

    private void put(int slot, Fam f) {
        boolean same = f == null ? slots[slot] == null : f.same(slots[slot]);
        if (!same) {
            acts.add(slots.clone());
            if (acts.size() > 10) {
                acts.remove(0);
            }
            slots[slot] = f;
        }
    }

    private int come(int to, int n, TreeSet<Integer> sets) {
        put(to, new Fam(n, sets));
        return sets.size();
    }

    private static int kth(TreeSet<Integer> sets, int k) {
        return k < sets.size() ? new ArrayList<>(sets).get(k) : -1;
    }

    // ---- tape

    int feed(int a, int b, int c, int d, int e) {
        if (tape.length() > 780) {
            return -1;
        }
        StringBuilder more = new StringBuilder(tape);
        for (int x : new int[] {a, b, c, d, e}) {
            more.append((char) ((x >>> 24) & 255)).append((char) ((x >>> 16) & 255));
            more.append((char) ((x >>> 8) & 255)).append((char) (x & 255));
        }
        tape = more.toString();
        return tape.length();
    }

    int end(int n) {
        if (n < 0 || n > tape.length()) {
            return -1;
        }
        tape = tape.substring(0, n);
        return n;
    }

    int told(int slot) {
        if (!in(slot, 0, 2)) {
            return -2;
        }
        String text = tape;
        tape = "";
        Fam f = parse(text);
        if (f == null) {
            return -4;
        }
        put(slot, f);
        return f.sets.size();
    }

    private Fam bad(int number, int place) {
        faultNumber = number;
        faultPlace = place;
        return null;
    }

    private Fam parse(String text) {
        faultNumber = 0;
        faultPlace = -1;
        List<String> tokens = new ArrayList<>();
        List<Integer> places = new ArrayList<>();
        Matcher m = Pattern.compile("[a-z]+|[0-9]+|[^ \n]", Pattern.DOTALL).matcher(text);
        while (m.find()) {
            tokens.add(m.group());
            places.add(m.start());
        }
        tokens.add("END");
        places.add(text.length());
        String state = "family";
        int n = 0;
        TreeSet<Integer> sets = new TreeSet<>();
        for (int t = 0; t < tokens.size(); t++) {
            String token = tokens.get(t);
            int place = places.get(t);
            boolean digits = token.matches("[0-9]+");
            if (state.equals("family") && token.equals("family")) {
                state = "n";
            } else if (state.equals("n") && digits) {
                java.math.BigInteger value = new java.math.BigInteger(token);
                if (value.bitLength() > 20 || !in(value.intValue(), 1, 7)) {
                    return bad(2, place);
                }
                n = value.intValue();
                state = "colon";
            } else if (state.equals("colon") && token.equals(":")) {
                state = "set";
            } else if ((state.equals("colon") || state.equals("comma")) && token.equals(";")) {
                state = "END";
            } else if (state.equals("comma") && token.equals(",")) {
                state = "set";
            } else if (state.equals("set") && (digits || token.equals("none"))) {
                int set = 0;
                for (int i = 0; digits && i < token.length(); i++) {
                    int d = token.charAt(i) - '0';
                    if (d >= n || token.substring(0, i).indexOf(token.charAt(i)) >= 0) {
                        return bad(3, place + i);
                    }
                    set += 1 << d;
                }
                if (!sets.add(set)) {
                    return bad(4, place);
                }
                state = "comma";
            } else if (state.equals("END") && t == tokens.size() - 1) {
                return new Fam(n, sets);
            } else {
                return bad(1, place);
            }
        }
        throw new IllegalStateException();
    }

    int fault(int what) {
        return what == 0 ? faultNumber : what == 1 ? faultPlace : -1;
    }

    int count(int what) {
        int bits = 0;
        for (int i = 0; i < 3; i++) {
            bits += slots[i] == null ? 0 : 1 << i;
        }
        return what == 0 ? bits : what == 1 ? acts.size() : what == 2 ? tape.length() : what == 3 ? out.length() : -1;
    }

    // ---- looking

    int look(int slot, int what) {
        return at(slot) == null || !in(what, 0, 6) ? -2 : lookAt(at(slot), what);
    }

    private static int lookAt(Fam f, int what) {
        int least = -1;
        int greatest = -1;
        int some = 0;
        int every = (1 << f.n) - 1;
        int twos = 0;
        for (int s : f.sets) {
            least = least < 0 ? lev(s) : Math.min(least, lev(s));
            greatest = Math.max(greatest, lev(s));
            some |= s;
            every &= s;
            for (int t : f.sets) {
                twos += s < t && !meet(s, t) ? 1 : 0;
            }
        }
        return new int[] {f.n, f.sets.size(), least, greatest, some, every, twos}[what];
    }

    int set(int slot, int k) {
        return at(slot) == null || k < 0 ? -2 : kth(at(slot).sets, k);
    }

    int has(int slot, int set) {
        Fam f = at(slot);
        return f == null || !isSet(f.n, set) ? -2 : f.sets.contains(set) ? 1 : 0;
    }

    private static boolean forTwo(Fam f, BiPredicate<Integer, Integer> good) {
        for (int a : f.sets) {
            for (int b : f.sets) {
                if (!good.test(a, b)) {
                    return false;
                }
            }
        }
        return true;
    }

    int is(int slot, int what) {
        Fam f = at(slot);
        return f == null || !in(what, 0, 10) ? -2 : isIt(f, what) ? 1 : 0;
    }

    private static boolean isIt(Fam f, int what) {
        switch (what) {
            case 0:
                return forTwo(f, (a, b) -> meet(a, b));
            case 1:
                return forTwo(f, (a, b) -> lev(a) == lev(b));
            case 2:
                return f.sets.containsAll(every(f.n, s -> f.sets.stream().anyMatch(t -> within(s, t))));
            case 3:
                return f.sets.containsAll(every(f.n, s -> f.sets.stream().anyMatch(t -> within(t, s))));
            case 4:
                return forTwo(f, (a, b) -> within(a, b) || within(b, a));
            case 5:
                return forTwo(f, (a, b) -> a.equals(b) || !within(a, b));
            case 6:
                for (int p = 0; p < f.n; p++) {
                    int point = p;
                    if (f.sets.stream().allMatch(s -> hasPoint(s, point))) {
                        return true;
                    }
                }
                return false;
            case 7:
                for (int j = 0; j < f.n; j++) {
                    for (int i = 0; i < j; i++) {
                        if (!shifted(f.sets, i, j).equals(f.sets)) {
                            return false;
                        }
                    }
                }
                return true;
            case 8:
                return forTwo(f, (a, b) -> f.sets.stream().allMatch(c -> (a & b & c) != 0));
            case 9:
                return forTwo(f, (a, b) -> f.sets.contains(a & b));
            default:
                return forTwo(f, (a, b) -> f.sets.contains(a | b));
        }
    }

    int degree(int slot, int point) {
        Fam f = at(slot);
        return f == null || !in(point, 0, f.n - 1) ? -2 : deg(f, point);
    }

    private static int deg(Fam f, int p) {
        return (int) f.sets.stream().filter(s -> hasPoint(s, p)).count();
    }

    int order(int slot, int k) {
        Fam f = at(slot);
        if (f == null || !in(k, 0, f.n - 1)) {
            return -2;
        }
        List<Integer> list = new ArrayList<>();
        for (int p = 0; p < f.n; p++) {
            list.add(p);
        }
        list.sort((p, q) -> deg(f, q) != deg(f, p) ? deg(f, q) - deg(f, p) : p - q);
        return list.get(k);
    }

    int level(int slot, int level) {
        Fam f = at(slot);
        return f == null || !in(level, 0, f.n) ? -2 : (int) f.sets.stream().filter(s -> lev(s) == level).count();
    }

    // ---- making

    int makes(int slot, int what, int to) {
        Fam f = at(slot);
        return f == null || !in(what, 0, 9) || !in(to, 0, 2) ? -2 : come(to, f.n, made(f, what));
    }

    private static TreeSet<Integer> made(Fam f, int what) {
        TreeSet<Integer> r = new TreeSet<>();
        switch (what) {
            case 0:
            case 1:
                for (int s : f.sets) {
                    for (int p = 0; p < f.n; p++) {
                        if (hasPoint(s, p) == (what == 0)) {
                            r.add(s ^ (1 << p));
                        }
                    }
                }
                return r;
            case 2:
                return every(f.n, s -> f.sets.stream().anyMatch(t -> within(s, t)));
            case 3:
                return every(f.n, s -> f.sets.stream().anyMatch(t -> within(t, s)));
            case 4:
                for (int s : f.sets) {
                    r.add((1 << f.n) - 1 - s);
                }
                return r;
            case 5:
            case 6:
                r.addAll(f.sets);
                for (int before = -1; before != r.size();) {
                    before = r.size();
                    for (int a : new ArrayList<>(r)) {
                        for (int b : new ArrayList<>(r)) {
                            r.add(what == 5 ? a & b : a | b);
                        }
                    }
                }
                return r;
            case 7:
                return every(f.n, s -> f.sets.contains(s) && f.sets.stream().noneMatch(t -> t != s && within(t, s)));
            case 8:
                return every(f.n, s -> f.sets.contains(s) && f.sets.stream().noneMatch(t -> t != s && within(s, t)));
            default:
                return every(f.n, s -> meetsAll(f, s)
                        && pointsOf(s).stream().noneMatch(p -> meetsAll(f, s - (1 << p))));
        }
    }

    private static boolean meetsAll(Fam f, int s) {
        return f.sets.stream().allMatch(t -> meet(s, t));
    }

    int part(int slot, int point, int what, int to) {
        Fam f = at(slot);
        if (f == null || !in(point, 0, f.n - 1) || !in(what, 0, 1) || !in(to, 0, 2)) {
            return -2;
        }
        TreeSet<Integer> r = new TreeSet<>();
        for (int s : f.sets) {
            boolean with = hasPoint(s, point);
            if (with && what == 0) {
                r.add(s - (1 << point));
            }
            if (!with && what == 1) {
                r.add(s);
            }
        }
        return come(to, f.n, r);
    }

    private static TreeSet<Integer> shifted(TreeSet<Integer> sets, int i, int j) {
        TreeSet<Integer> r = new TreeSet<>();
        for (int s : sets) {
            int other = s - (1 << j) + (1 << i);
            boolean moves = hasPoint(s, j) && !hasPoint(s, i) && !sets.contains(other);
            r.add(moves ? other : s);
        }
        return r;
    }

    private static int gone(TreeSet<Integer> before, TreeSet<Integer> after) {
        TreeSet<Integer> r = new TreeSet<>(before);
        r.removeAll(after);
        return r.size();
    }

    int shift(int slot, int i, int j) {
        Fam f = at(slot);
        if (would(slot, i, j) == -2) {
            return -2;
        }
        TreeSet<Integer> r = shifted(f.sets, i, j);
        come(slot, f.n, r);
        return gone(f.sets, r);
    }

    int would(int slot, int i, int j) {
        Fam f = at(slot);
        return f == null || i < 0 || i >= j || j >= f.n ? -2 : gone(f.sets, shifted(f.sets, i, j));
    }

    int settles(int slot) {
        Fam f = at(slot);
        if (f == null) {
            return -2;
        }
        TreeSet<Integer> now = f.sets;
        int changes = 0;
        for (int before = -1; before != changes;) {
            before = changes;
            for (int i = 0; i < f.n; i++) {
                for (int j = i + 1; j < f.n; j++) {
                    TreeSet<Integer> r = shifted(now, i, j);
                    changes += r.equals(now) ? 0 : 1;
                    now = r;
                }
            }
        }
        come(slot, f.n, now);
        return changes;
    }

    private static long c(int n, int k) {
        if (k < 0 || k > n) {
            return 0;
        }
        java.math.BigInteger r = java.math.BigInteger.ONE;
        for (int i = 0; i < k; i++) {
            r = r.multiply(java.math.BigInteger.valueOf(n - i)).divide(java.math.BigInteger.valueOf(i + 1));
        }
        return r.longValueExact();
    }

    int row(int slot, int n, int k, int m) {
        if (!in(slot, 0, 2) || !in(n, 1, 7) || !in(k, 0, n) || m < 0 || m > c(n, k)) {
            return -2;
        }
        List<Integer> list = new ArrayList<>(every(n, s -> lev(s) == k));
        come(slot, n, new TreeSet<>(list.subList(0, m)));
        return m == 0 ? -1 : list.get(m - 1);
    }

    int all(int slot, int n, int k, int point) {
        if (!in(slot, 0, 2) || !in(n, 1, 7) || !in(k, 0, n) || !in(point, -1, n - 1)) {
            return -2;
        }
        return come(slot, n, every(n, s -> lev(s) == k && (point == -1 || hasPoint(s, point))));
    }

    private static List<Integer> cascadeOf(int m, int k) {
        List<Integer> list = new ArrayList<>();
        int left = m;
        int level = k;
        while (left > 0) {
            int a = 0;
            while (level == 1 ? a + 1 <= left : c(a + 1, level) <= left) {
                a++;
            }
            list.add(a);
            left -= c(a, level);
            level--;
        }
        return list;
    }

    int least(int m, int k) {
        if (!in(m, 0, 100000) || !in(k, 1, 7)) {
            return -2;
        }
        long r = 0;
        int level = k;
        for (int a : cascadeOf(m, k)) {
            r += c(a, level - 1);
            level--;
        }
        return (int) r;
    }

    int cascade(int m, int k, int i) {
        if (!in(m, 0, 100000) || !in(k, 1, 7) || i < 0) {
            return -2;
        }
        List<Integer> list = cascadeOf(m, k);
        return i < list.size() ? list.get(i) : -1;
    }

    int choose(int n, int k) {
        return in(n, 0, 20) ? (int) c(n, k) : -2;
    }

    // ---- search

    private int tries;
    private int limit;
    private List<Integer> best;

    private static boolean goes(int what, int a, int b) {
        boolean nested = within(a, b) || within(b, a);
        return what == 0 ? meet(a, b) : what == 1 ? !meet(a, b) : what == 2 ? !nested : nested;
    }

    private void searchOn(int what, List<Integer> taken, List<Integer> left) {
        if (taken.size() + left.size() <= best.size()) {
            return;
        }
        if (left.isEmpty()) {
            best = taken;
            return;
        }
        int first = left.get(0);
        List<Integer> rest = left.subList(1, left.size());
        if (++tries > limit) {
            throw new TooLong();
        }
        List<Integer> more = new ArrayList<>(taken);
        more.add(first);
        List<Integer> fit = new ArrayList<>();
        for (int s : rest) {
            if (goes(what, first, s)) {
                fit.add(s);
            }
        }
        searchOn(what, more, fit);
        searchOn(what, taken, rest);
    }

    private boolean search(Fam f, int what, int most) {
        tries = 0;
        limit = most;
        best = new ArrayList<>();
        List<Integer> left = new ArrayList<>(f.sets);
        if (what == 0) {
            left.remove(Integer.valueOf(0));
        }
        try {
            searchOn(what, new ArrayList<>(), left);
            return true;
        } catch (TooLong e) {
            return false;
        }
    }

    int most(int slot, int what, int most) {
        Fam f = at(slot);
        if (f == null || !in(what, 0, 3) || !in(most, 1, 50000)) {
            return -2;
        }
        return search(f, what, most) ? best.size() : -3;
    }

    int takes(int slot, int what, int most, int to) {
        Fam f = at(slot);
        if (f == null || !in(what, 0, 3) || !in(most, 1, 50000) || !in(to, 0, 2)) {
            return -2;
        }
        if (!search(f, what, most)) {
            return -3;
        }
        come(to, f.n, new TreeSet<>(best));
        return tries;
    }

    int cover(int slot) {
        Fam f = at(slot);
        if (f == null) {
            return -2;
        }
        int found = -1;
        for (int s = 0; s < (1 << f.n); s++) {
            if (meetsAll(f, s) && (found < 0 || lev(s) < lev(found))) {
                found = s;
            }
        }
        return found;
    }

    private boolean putIn(List<Integer> sets, int i, List<List<Integer>> parts, int c, int[] where) {
        if (i == sets.size()) {
            return true;
        }
        int s = sets.get(i);
        for (int p = 0; p < c; p++) {
            boolean empty = parts.get(p).isEmpty();
            if (parts.get(p).stream().allMatch(t -> meet(s, t))) {
                if (++tries > limit) {
                    throw new TooLong();
                }
                parts.get(p).add(s);
                where[i] = p;
                if (putIn(sets, i + 1, parts, c, where)) {
                    return true;
                }
                parts.get(p).remove(Integer.valueOf(s));
            }
            if (empty) {
                break;
            }
        }
        return false;
    }

    /** Where the sets are; null: no way. */
    private int[] paint(Fam f, int c, int most) {
        tries = 0;
        limit = most;
        List<List<Integer>> parts = new ArrayList<>();
        for (int i = 0; i < c; i++) {
            parts.add(new ArrayList<>());
        }
        int[] where = new int[f.sets.size()];
        return putIn(new ArrayList<>(f.sets), 0, parts, c, where) ? where : null;
    }

    int colours(int slot, int most) {
        Fam f = at(slot);
        if (f == null || !in(most, 1, 50000)) {
            return -2;
        }
        if (f.sets.contains(0)) {
            return -6;
        }
        try {
            int c = 0;
            while (!f.sets.isEmpty()) {
                c++;
                if (paint(f, c, most) != null) {
                    break;
                }
            }
            return c;
        } catch (TooLong e) {
            return -3;
        }
    }

    int colour(int slot, int c, int most, int k) {
        Fam f = at(slot);
        if (f == null || !in(c, 1, 7) || !in(most, 1, 50000) || k < 0) {
            return -2;
        }
        if (f.sets.contains(0)) {
            return -6;
        }
        if (k >= f.sets.size()) {
            return -1;
        }
        try {
            int[] where = paint(f, c, most);
            return where == null ? -1 : where[k];
        } catch (TooLong e) {
            return -3;
        }
    }

    int steps(int slot, int set, int other) {
        Fam f = at(slot);
        if (f == null || !isSet(f.n, set) || !isSet(f.n, other)) {
            return -2;
        }
        if (!f.sets.contains(set) || !f.sets.contains(other)) {
            return -6;
        }
        Map<Integer, Integer> far = new HashMap<>();
        List<Integer> line = new ArrayList<>(List.of(set));
        far.put(set, 0);
        for (int i = 0; i < line.size(); i++) {
            int s = line.get(i);
            for (int t : f.sets) {
                if (!meet(s, t) && !far.containsKey(t)) {
                    far.put(t, far.get(s) + 1);
                    line.add(t);
                }
            }
        }
        return far.getOrDefault(other, -1);
    }

    // ---- rounds

    private static List<List<Integer>> ordersOf(List<Integer> points) {
        List<List<Integer>> r = new ArrayList<>();
        if (points.isEmpty()) {
            r.add(new ArrayList<>());
        }
        for (int p : points) {
            List<Integer> rest = new ArrayList<>(points);
            rest.remove(Integer.valueOf(p));
            for (List<Integer> tail : ordersOf(rest)) {
                List<Integer> one = new ArrayList<>(List.of(p));
                one.addAll(tail);
                r.add(one);
            }
        }
        return r;
    }

    private static final Map<Integer, List<List<Integer>>> ROUNDS = new HashMap<>();

    private static List<List<Integer>> roundsOf(int n) {
        return ROUNDS.computeIfAbsent(n, m -> {
            List<Integer> points = new ArrayList<>();
            for (int p = 0; p < m - 1; p++) {
                points.add(p);
            }
            List<List<Integer>> r = new ArrayList<>();
            for (List<Integer> o : ordersOf(points)) {
                List<Integer> one = new ArrayList<>(List.of(m - 1));
                one.addAll(o);
                r.add(one);
            }
            return r;
        });
    }

    private static boolean isArc(List<Integer> round, int set) {
        int borders = 0;
        for (int i = 0; i < round.size(); i++) {
            boolean here = (set & (1 << round.get(i))) != 0;
            boolean there = (set & (1 << round.get((i + 1) % round.size()))) != 0;
            borders += here != there ? 1 : 0;
        }
        return borders <= 2;
    }

    int arcs(int slot, int round) {
        Fam f = at(slot);
        if (f == null || !in(round, 0, roundsOf(f.n).size() - 1)) {
            return -2;
        }
        return (int) f.sets.stream().filter(s -> isArc(roundsOf(f.n).get(round), s)).count();
    }

    int around(int n, int round, int i) {
        if (!in(n, 1, 7) || !in(round, 0, roundsOf(n).size() - 1) || !in(i, 0, n - 1)) {
            return -2;
        }
        return roundsOf(n).get(round).get(i);
    }

    int rounds(int n, int set) {
        if (!in(n, 1, 7) || !isSet(n, set)) {
            return -2;
        }
        return (int) roundsOf(n).stream().filter(r -> isArc(r, set)).count();
    }

    int sum(int slot, int what) {
        Fam f = at(slot);
        if (f == null || !in(what, 0, 1)) {
            return -2;
        }
        // 420 is a multiple of every C(n, k) for n up to 7.
        long above = 0;
        for (int s : f.sets) {
            above += 420 / c(f.n, lev(s));
        }
        long below = 420;
        for (int d = 420; d > 1; d--) {
            if (above % d == 0 && below % d == 0) {
                above /= d;
                below /= d;
            }
        }
        return (int) (what == 0 ? above : below);
    }

    private static boolean shatteredIn(Fam f, int set) {
        for (int part : every(f.n, s -> within(s, set))) {
            if (f.sets.stream().noneMatch(s -> (s & set) == part)) {
                return false;
            }
        }
        return true;
    }

    int shattered(int slot, int set) {
        Fam f = at(slot);
        return f == null || !isSet(f.n, set) ? -2 : shatteredIn(f, set) ? 1 : 0;
    }

    int shatters(int slot, int what) {
        Fam f = at(slot);
        if (f == null || !in(what, 0, 1)) {
            return -2;
        }
        TreeSet<Integer> r = every(f.n, s -> shatteredIn(f, s));
        return what == 0 ? r.size() : r.stream().mapToInt(PlainSets::lev).max().orElse(-1);
    }

    int flower(int slot, int k) {
        Fam f = at(slot);
        if (f == null || k < -1) {
            return -2;
        }
        List<Integer> list = new ArrayList<>();
        for (int a : f.sets) {
            for (int b : f.sets.tailSet(a, false)) {
                for (int third : f.sets.tailSet(b, false)) {
                    if ((a & b) == (a & third) && (a & b) == (b & third)) {
                        list.add(1000000 * a + 1000 * b + third);
                    }
                }
            }
        }
        return k == -1 ? list.size() : k < list.size() ? list.get(k) : -1;
    }

    int across(int slot, int other, int what) {
        Fam f = at(slot);
        Fam g = at(other);
        if (f == null || g == null || !in(what, 0, 3)) {
            return -2;
        }
        int meeting = 0;
        for (int a : f.sets) {
            for (int b : g.sets) {
                meeting += meet(a, b) ? 1 : 0;
            }
        }
        TreeSet<Integer> both = new TreeSet<>(f.sets);
        both.retainAll(g.sets);
        TreeSet<Integer> either = new TreeSet<>(f.sets);
        either.addAll(g.sets);
        int twos = f.sets.size() * g.sets.size();
        return new int[] {meeting, twos - meeting, both.size(), either.size()}[what];
    }

    int answers(int slot, int k) {
        Fam f = at(slot);
        return f == null || !in(k, 0, f.n) ? -2 : every(f.n, s -> lev(s) == k && meetsAll(f, s)).size();
    }

    private static int namings(Fam f, Fam g) {
        List<Integer> points = new ArrayList<>();
        for (int p = 0; p < f.n; p++) {
            points.add(p);
        }
        int ways = 0;
        for (List<Integer> names : ordersOf(points)) {
            boolean good = f.n == g.n && f.sets.size() == g.sets.size();
            for (int s : f.sets) {
                int named = 0;
                for (int p = 0; p < f.n; p++) {
                    named |= (s >> p & 1) << names.get(p);
                }
                good = good && g.sets.contains(named);
                if (!good) {
                    break;
                }
            }
            ways += good ? 1 : 0;
        }
        return ways;
    }

    int alike(int slot, int other) {
        Fam f = at(slot);
        Fam g = at(other);
        return f == null || g == null ? -2 : namings(f, g) > 0 ? 1 : 0;
    }

    int selves(int slot) {
        return at(slot) == null ? -2 : namings(at(slot), at(slot));
    }

    // ---- one set more or less

    private static TreeSet<Integer> but(Fam f, int set) {
        TreeSet<Integer> r = new TreeSet<>(f.sets);
        r.remove(set);
        return r;
    }

    int adds(int slot, int set) {
        Fam f = at(slot);
        if (f == null || !isSet(f.n, set)) {
            return -2;
        }
        TreeSet<Integer> r = new TreeSet<>(f.sets);
        return r.add(set) ? come(slot, f.n, r) : -5;
    }

    int without(int slot, int set, int what) {
        Fam f = at(slot);
        if (f == null || !isSet(f.n, set) || !in(what, 0, 6)) {
            return -2;
        }
        return f.sets.contains(set) ? lookAt(new Fam(f.n, but(f, set)), what) : -6;
    }

    int cuts(int slot, int set) {
        Fam f = at(slot);
        if (f == null || !isSet(f.n, set)) {
            return -2;
        }
        return f.sets.contains(set) ? come(slot, f.n, but(f, set)) : -6;
    }

    int drops(int slot) {
        if (!in(slot, 0, 2)) {
            return -2;
        }
        int had = slots[slot] == null ? 0 : 1;
        put(slot, null);
        return had;
    }

    int undo() {
        if (acts.isEmpty()) {
            return -1;
        }
        System.arraycopy(acts.remove(acts.size() - 1), 0, slots, 0, 3);
        return acts.size();
    }

    int tell(int slot) {
        Fam f = at(slot);
        if (f == null) {
            return -2;
        }
        List<String> texts = new ArrayList<>();
        for (int s : f.sets) {
            StringBuilder one = new StringBuilder();
            pointsOf(s).forEach(one::append);
            texts.add(s == 0 ? "none" : one.toString());
        }
        out = "family " + f.n + (texts.isEmpty() ? "" : ":") + String.join(",", texts) + ";";
        return out.length();
    }

    int octet(int i) {
        return in(i, 0, out.length() - 1) ? out.charAt(i) : -1;
    }

    // ---- the rest

    int common(int slot, int set, int k) {
        Fam f = at(slot);
        if (f == null || !isSet(f.n, set) || !in(k, 0, f.n)) {
            return -2;
        }
        return (int) f.sets.stream().filter(s -> lev(s & set) == k).count();
    }

    int lacks(int slot, int k) {
        Fam f = at(slot);
        return f == null || k < 0 ? -2 : kth(every(f.n, s -> !f.sets.contains(s)), k);
    }

    int moved(int slot) {
        Fam f = at(slot);
        if (f == null) {
            return -2;
        }
        int r = 0;
        for (int i = 0; i < f.n; i++) {
            for (int j = i + 1; j < f.n; j++) {
                r += would(slot, i, j) > 0 ? 1 : 0;
            }
        }
        return r;
    }

    int together(int slot, int p, int q, int what) {
        Fam f = at(slot);
        if (f == null || !in(p, 0, f.n - 1) || !in(q, 0, f.n - 1) || !in(what, 0, 1)) {
            return -2;
        }
        int r = 0;
        for (int s : f.sets) {
            boolean hasP = hasPoint(s, p);
            boolean hasQ = hasPoint(s, q);
            r += what == 0 ? (hasP && hasQ ? 1 : 0) : (hasP != hasQ ? 1 : 0);
        }
        return r;
    }

    int half(int slot) {
        Fam f = at(slot);
        if (f == null) {
            return -2;
        }
        int bits = 0;
        for (int p = 0; p < f.n; p++) {
            bits |= deg(f, p) >= f.sets.size() / 2.0 ? 1 << p : 0;
        }
        return bits;
    }

    int next(int slot, int set) {
        Fam f = at(slot);
        if (f == null || !isSet(f.n, set)) {
            return -2;
        }
        Integer r = every(f.n, s -> lev(s) == lev(set)).higher(set);
        return r == null ? -1 : r;
    }

    int apart(int slot, int k) {
        Fam f = at(slot);
        if (f == null || k < -1) {
            return -2;
        }
        List<Integer> list = new ArrayList<>();
        for (int a : f.sets) {
            for (int b : f.sets.tailSet(a, false)) {
                if (!meet(a, b)) {
                    list.add(1000 * a + b);
                }
            }
        }
        return k == -1 ? list.size() : k < list.size() ? list.get(k) : -1;
    }

    int covers(int slot, int k) {
        Fam f = at(slot);
        if (f == null || k < -1) {
            return -2;
        }
        TreeSet<Integer> r = every(f.n, s -> meetsAll(f, s));
        return k == -1 ? r.size() : kth(r, k);
    }

    int height(int slot, int set) {
        Fam f = at(slot);
        if (f == null || !isSet(f.n, set)) {
            return -2;
        }
        if (!f.sets.contains(set)) {
            return -6;
        }
        int[] heights = new int[128];
        Arrays.fill(heights, 0);
        for (int s : f.sets) {
            for (int t : f.sets.headSet(s)) {
                heights[s] = within(t, s) ? Math.max(heights[s], heights[t]) : heights[s];
            }
            heights[s]++;
        }
        return heights[set];
    }

    int trace(int slot, int set, int to) {
        Fam f = at(slot);
        if (f == null || !isSet(f.n, set) || !in(to, 0, 2)) {
            return -2;
        }
        TreeSet<Integer> r = new TreeSet<>();
        f.sets.forEach(s -> r.add(s & set));
        return come(to, f.n, r);
    }

    int joint(int slot, int other, int what, int to) {
        Fam f = at(slot);
        Fam g = at(other);
        if (f == null || g == null || !in(what, 0, 3) || !in(to, 0, 2)) {
            return -2;
        }
        if (f.n != g.n) {
            return -6;
        }
        TreeSet<Integer> r = new TreeSet<>(f.sets);
        if (what == 0) {
            r.addAll(g.sets);
        } else if (what == 1) {
            r.retainAll(g.sets);
        } else if (what == 2) {
            r.removeAll(g.sets);
        } else {
            r.clear();
            f.sets.forEach(a -> g.sets.forEach(b -> r.add(a | b)));
        }
        return come(to, f.n, r);
    }

    int rank(int set) {
        return isSet(7, set) ? every(7, s -> lev(s) == lev(set)).headSet(set).size() : -2;
    }

    int ranked(int k, int i) {
        return !in(k, 0, 7) || i < 0 ? -2 : kth(every(7, s -> lev(s) == k), i);
    }
}
