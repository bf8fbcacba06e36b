import java.util.ArrayList;
import java.util.List;
import java.util.Random;

/** Long runs of calls, of a fixed seed: the program and the plain reading of the document answer alike. */
public final class AgainstPlainTest {
    private final Random random;
    private final Pair pair = new Pair();
    private int slot;

    private AgainstPlainTest(long seed) {
        random = new Random(seed);
    }

    private int odd(int least, int most, int wildOneIn) {
        int[] wild = {Integer.MIN_VALUE, -3, -2, -1, least - 1, most + 1, most + 2, 128, 1000, Integer.MAX_VALUE};
        if (random.nextInt(wildOneIn) == 0) {
            return wild[random.nextInt(wild.length)];
        }
        return least + random.nextInt(most - least + 1);
    }

    private int pointsHere() {
        int n = pair.plain.look(slot, 0);
        return n < 1 ? 4 : n;
    }

    private int member() {
        int size = pair.plain.look(slot, 1);
        return size < 1 ? 0 : pair.plain.set(slot, random.nextInt(size));
    }

    private int argument(String kind, int before) {
        if (kind.startsWith("what")) {
            return odd(0, Integer.parseInt(kind.substring(4)) - 1, 30);
        }
        int n = pointsHere();
        switch (kind) {
            case "slot":
                slot = odd(0, 2, 40);
                return slot;
            case "to":
                return odd(0, 2, 40);
            case "set":
                return random.nextInt(3) > 0 ? member() : odd(0, (1 << n) - 1, 30);
            case "k":
                return odd(0, Math.max(1, pair.plain.look(slot, 1)), 30);
            case "kmany":
                return random.nextBoolean() ? -1 : odd(0, 200, 20);
            case "point":
            case "level":
                return odd(0, kind.equals("point") ? n - 1 : n, 30);
            case "i":
                return n < 2 ? odd(0, 1, 20) : odd(0, n - 2, 30);
            case "j":
                return before >= 0 && before < n - 1 && random.nextInt(10) > 0
                        ? before + 1 + random.nextInt(n - 1 - before) : odd(0, n - 1, 20);
            case "n":
                return odd(1, 7, 30);
            case "n20":
                return odd(0, 20, 20);
            case "m":
                return odd(0, 10, 20);
            case "c":
                return odd(1, 7, 30);
            case "few":
                return odd(0, 6, 20);
            case "big":
                return random.nextBoolean() ? odd(0, 60, 20) : odd(0, 100000, 20);
            case "tries":
                return random.nextInt(3) > 0 ? odd(1, 300, 30) : random.nextInt(20) > 0 ? 2000 : 50000;
            case "round":
                return odd(0, new int[] {1, 1, 1, 2, 6, 24, 120, 720}[n] - 1, 30);
            default:
                throw new IllegalStateException(kind);
        }
    }

    private String someText() {
        int n = 1 + random.nextInt(7);
        int oneIn = 1 + random.nextInt(1 + random.nextInt(30));
        StringBuilder text = new StringBuilder("family ").append(n);
        List<String> sets = new ArrayList<>();
        for (int s = 0; s < (1 << n); s++) {
            if (random.nextInt(oneIn) == 0 && sets.size() < 90) {
                StringBuilder one = new StringBuilder();
                for (int p = 0; p < n; p++) {
                    if ((s & (1 << p)) != 0) {
                        one.insert(random.nextInt(one.length() + 1), p);
                    }
                }
                sets.add(random.nextInt(sets.size() + 1), s == 0 ? "none" : one.toString());
            }
        }
        if (random.nextInt(2) == 0) {
            sets.remove("none");
        }
        String comma = random.nextInt(3) > 0 ? "," : " ,\n";
        text.append(sets.isEmpty() ? "" : ":").append(String.join(comma, sets)).append(';');
        if (random.nextInt(3) == 0) {
            spoil(text);
        }
        return text.toString();
    }

    private void spoil(StringBuilder text) {
        String signs = "family none;:,,0123456789  \n\tA\u00e9xyz";
        for (int times = 1 + random.nextInt(2); times > 0; times--) {
            int i = random.nextInt(text.length());
            char sign = signs.charAt(random.nextInt(signs.length()));
            int way = random.nextInt(4);
            if (way == 0) {
                text.setCharAt(i, sign);
            } else if (way == 1) {
                text.insert(i, sign);
            } else if (way == 2) {
                text.deleteCharAt(i);
            } else {
                text.append(sign);
            }
        }
    }

    private void feedText(String text) throws Exception {
        int before = pair.plain.count(2);
        for (int i = 0; i < text.length(); i += 20) {
            Object[] numbers = new Object[5];
            for (int w = 0; w < 5; w++) {
                numbers[w] = Texts.piece(text, i)[w];
            }
            pair.call("feed", numbers);
        }
        pair.call("end", before + text.length());
        if (random.nextInt(6) == 0) {
            pair.call("end", odd(0, 800, 3));
        }
    }

    private void run(int calls) throws Exception {
        while (pair.calls() < calls) {
            if (random.nextInt(12) == 0) {
                if (random.nextInt(10) > 0) {
                    pair.call("end", 0);
                }
                feedText(someText());
                pair.call("told", odd(0, 2, 40));
                pair.call("fault", 0);
                pair.call("fault", 1);
            }
            String[] words = Pair.CALLS[random.nextInt(Pair.CALLS.length)].split(" ");
            if (words[0].equals("drops") && random.nextInt(3) > 0) {
                continue;
            }
            Object[] args = new Object[words.length - 1];
            int before = 0;
            for (int i = 1; i < words.length; i++) {
                before = argument(words[i], before);
                args[i - 1] = before;
            }
            pair.call(words[0], args);
        }
        for (int i = 0; i < 12; i++) {
            pair.call("undo");
            pair.call("count", 0);
            pair.call("tell", i % 3);
        }
        while (pair.calls() < Pair.MOST_CALLS) {
            pair.call("octet", pair.calls() - Pair.MOST_CALLS + pair.plain.count(3));
        }
    }

    private static int readTexts() throws Exception {
        int texts = 0;
        for (int seed = 1; seed <= 400; seed++) {
            AgainstPlainTest t = new AgainstPlainTest(1000 + seed);
            for (int i = 0; i < 10; i++) {
                t.pair.call("end", 0);
                StringBuilder text = new StringBuilder(t.someText());
                t.spoil(text);
                t.feedText(text.toString());
                t.pair.call("told", i % 3);
                t.pair.call("fault", 0);
                t.pair.call("fault", 1);
                t.pair.call("tell", i % 3);
                texts++;
                if (t.pair.calls() > Pair.MOST_CALLS - 100) {
                    break;
                }
            }
            while (t.pair.calls() < Pair.MOST_CALLS) {
                t.pair.call("octet", Pair.MOST_CALLS - t.pair.calls() - 2);
            }
        }
        return texts;
    }

    public static void main(String[] args) throws Exception {
        int runs = args.length > 0 ? Integer.parseInt(args[0]) : 120;
        int first = args.length > 1 ? Integer.parseInt(args[1]) : 1;
        try {
            int texts = readTexts();
            for (int seed = first; seed < first + runs; seed++) {
                new AgainstPlainTest(seed).run(Pair.MOST_CALLS - 90);
            }
            System.out.println(runs + " runs and " + texts + " texts are as the plain reading has them");
        } catch (IllegalStateException e) {
            System.out.println(e.getMessage());
            System.exit(1);
        }
    }
}
