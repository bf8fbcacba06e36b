import java.util.ArrayList;
import java.util.List;
import java.util.Set;

/**
 * Every family of one to three points, and some of four, is asked every question of one family with every number
 * up to just outside of its bounds; so are every two families of up to two points, and some of three, those of two;
 * and so are the questions of no family asked. Of tries, of sets in long rows of them and of the numbers of least()
 * only some are asked for. The plain reading must answer alike.
 */
public final class EveryFamilyTest {
    private static final Set<String> ACTS = Set.of(
            "makes", "part", "shift", "settles", "takes", "adds", "cuts", "drops", "trace", "joint", "row", "all");
    private static final Set<String> OF_TWO = Set.of("across", "alike", "joint");
    private static final int[] FACTORIALS = {1, 1, 2, 6, 24, 120, 720};
    /** What is kept free for looking at the slots behind an act. */
    private static final int ROOM = 130;
    private static long asked = 0;

    private final int[] points;
    private final long[] sets;
    private Pair pair = new Pair();

    /** Families for slots 0, 1 .., each by its N and its sets as bits. */
    private EveryFamilyTest(int[] points, long[] sets) throws Exception {
        this.points = points;
        this.sets = sets;
        renew();
    }

    private void renew() throws Exception {
        asked += pair.calls();
        pair = new Pair();
        for (int slot = 0; slot < points.length; slot++) {
            String text = text(points[slot], sets[slot]);
            for (int i = 0; i < text.length(); i += 20) {
                int[] w = Texts.piece(text, i);
                pair.call("feed", w[0], w[1], w[2], w[3], w[4]);
            }
            pair.call("told", slot);
        }
    }

    private static String text(int n, long sets) {
        List<String> list = new ArrayList<>();
        for (int s = 0; s < 1 << n; s++) {
            StringBuilder set = new StringBuilder(s == 0 ? "none" : "");
            for (int p = 0; p < n; p++) {
                set.append((s >> p & 1) == 1 ? String.valueOf(p) : "");
            }
            if ((sets >> s & 1) == 1) {
                list.add(set.toString());
            }
        }
        return "family " + n + (list.isEmpty() ? "" : ":") + String.join(",", list) + ";";
    }

    private void ask(String name, Object... args) throws Exception {
        if (pair.calls() > Pair.MOST_CALLS - ROOM) {
            renew();
        }
        int before = pair.plain.count(1);
        int answer = pair.call(name, args);
        if (ACTS.contains(name) && answer >= -1) {
            looksOver();
            if (pair.plain.count(1) > before) {
                pair.call("undo");
                looksOver();
            }
        }
    }

    private void looksOver() throws Exception {
        pair.call("count", 0);
        pair.call("count", 1);
        for (int slot = 0; slot < 3; slot++) {
            pair.call("look", slot, 0);
            pair.call("look", slot, 1);
            for (int k = 0; k < pair.plain.look(slot, 1); k++) {
                pair.call("set", slot, k);
            }
        }
    }

    // ---- the numbers to ask with

    private static List<Integer> from(int least, int most) {
        List<Integer> list = new ArrayList<>();
        for (int i = least; i <= most; i++) {
            list.add(i);
        }
        return list;
    }

    private List<Integer> numbers(String kind) {
        int n = points[0];
        if (kind.startsWith("what")) {
            return from(-1, Integer.parseInt(kind.substring(4)));
        }
        switch (kind) {
            case "slot":
                return List.of(0);
            case "to":
                return points.length > 1 ? List.of(1) : from(-1, 3);
            case "set":
                return from(-1, 1 << n);
            case "point":
            case "i":
            case "j":
                return from(-1, n);
            case "level":
                return from(-1, n + 1);
            case "k":
                return from(-1, 1 << n);
            case "kmany":
                return from(-2, n < 4 ? 57 : 20);
            case "c":
                return from(0, 8);
            case "tries":
                return List.of(0, 1, 4, 9, 50000, 50001);
            case "round":
                return from(-1, FACTORIALS[n - 1]);
            default:
                throw new IllegalStateException(kind);
        }
    }

    private void askWithAll(String[] words, Object[] args, int at) throws Exception {
        if (at == words.length) {
            ask(words[0], args.clone());
            return;
        }
        for (int number : numbers(words[at])) {
            args[at - 1] = number;
            askWithAll(words, args, at + 1);
        }
    }

    private void askWithAll(boolean ofTwo) throws Exception {
        for (String call : Pair.CALLS) {
            String[] words = call.split(" ");
            boolean ofSlot = words.length > 1 && words[1].equals("slot") && !call.matches("(told|row|all) .*");
            if (ofSlot && OF_TWO.contains(words[0]) == ofTwo) {
                askWithAll(words, new Object[words.length - 1], 1);
            }
        }
        asked += pair.calls();
    }

    // ---- all there are

    private static void oneFamily(int n, int step) throws Exception {
        for (long family = 0; family < 1L << (1 << n); family += step) {
            new EveryFamilyTest(new int[] {n}, new long[] {family}).askWithAll(false);
        }
    }

    private static void twoFamilies(int n, int m, int step) throws Exception {
        for (long family = 0; family < 1L << (1 << n); family++) {
            for (long other = family % step; other < 1L << (1 << m); other += step) {
                new EveryFamilyTest(new int[] {n, m}, new long[] {family, other}).askWithAll(true);
            }
        }
    }

    // ---- what is asked without a family

    private void rowsAndRounds() throws Exception {
        for (int n : from(0, 8)) {
            for (int k : from(-1, n + 1)) {
                for (int m : from(-1, 36)) {
                    ask("row", 2, n, k, m);
                }
                for (int point : from(-2, n)) {
                    ask("all", 2, n, k, point);
                }
            }
            for (int round : from(-1, n == 0 || n == 8 ? 0 : FACTORIALS[n - 1])) {
                for (int i : from(-1, n)) {
                    ask("around", n, round, i);
                }
            }
            for (int set : from(-1, 1 << n)) {
                ask("rounds", n, set);
            }
        }
    }

    /** All up to 130, then some up to just outside of the bound. */
    private static List<Integer> rowSizes() {
        List<Integer> list = from(-1, 130);
        for (int m = 997; m < 100000; m += 997) {
            list.add(m);
        }
        list.addAll(from(99999, 100001));
        return list;
    }

    private void numbersAlone() throws Exception {
        for (int n : from(-1, 21)) {
            for (int k : from(-2, 22)) {
                ask("choose", n, k);
            }
        }
        for (int set : from(-1, 128)) {
            ask("rank", set);
        }
        for (int k : from(-1, 8)) {
            for (int i : from(-1, 36)) {
                ask("ranked", k, i);
            }
            for (int m : rowSizes()) {
                ask("least", m, k);
                for (int i : from(-1, k)) {
                    ask("cascade", m, k, i);
                }
            }
        }
        asked += pair.calls();
    }

    public static void main(String[] args) throws Exception {
        try {
            EveryFamilyTest none = new EveryFamilyTest(new int[0], new long[0]);
            none.rowsAndRounds();
            none.numbersAlone();
            oneFamily(1, 1);
            oneFamily(2, 1);
            oneFamily(3, 1);
            oneFamily(4, 251);
            twoFamilies(1, 1, 1);
            twoFamilies(1, 2, 1);
            twoFamilies(2, 1, 1);
            twoFamilies(2, 2, 1);
            twoFamilies(3, 3, 13);
            System.out.println(asked + " answers are as the plain reading has them");
        } catch (IllegalStateException e) {
            System.out.println(e.getMessage());
            System.exit(1);
        }
    }
}
