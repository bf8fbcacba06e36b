import java.lang.reflect.Method;
import java.util.ArrayList;
import java.util.LinkedHashMap;
import java.util.List;
import java.util.Map;
import java.util.Random;

/** Long runs of calls, of a fixed seed: the program and the plain reading of the document answer alike. */
public final class AgainstPlainTest {
    /** What the arguments of each call are, a word for each; the slot comes first where there is one. */
    private static final String[] CALLS = {
        "told slot", "fault what2", "count what4", "look slot what7", "set slot k", "has slot set",
        "is slot what11", "degree slot point", "order slot point", "level slot level", "makes slot what10 to",
        "part slot point what2 to", "shift slot i j", "would slot i j", "settles slot", "row slot n level m",
        "all slot n level point", "least big level", "cascade big level few", "choose n20 n20",
        "most slot what4 tries", "takes slot what4 tries to", "cover slot", "colours slot tries",
        "colour slot c tries k", "steps slot set set", "arcs slot round", "around n round point",
        "rounds n set", "sum slot what2", "shattered slot set", "shatters slot what2", "flower slot kmany",
        "across slot to what4", "answers slot level", "alike slot to", "selves slot", "adds slot set",
        "without slot set what7", "cuts slot set", "drops slot", "undo", "tell slot", "octet kmany",
        "common slot set level", "lacks slot k", "moved slot", "together slot point point what2", "half slot",
        "next slot set", "apart slot kmany", "covers slot k", "height slot set", "trace slot set to",
        "joint slot to what4 to", "rank set", "ranked level k"};

    /** What later calls on an object answer is free. */
    private static final int MOST_CALLS = 512;

    private final Random random;
    private final MeetingSets x = new MeetingSets();
    private final PlainSets plain = new PlainSets();
    private final List<String> log = new ArrayList<>();
    private static final Map<String, Method> REAL = methods(MeetingSets.class);
    private static final Map<String, Method> PLAIN = methods(PlainSets.class);
    private int slot;

    private AgainstPlainTest(long seed) {
        random = new Random(seed);
    }

    private static Map<String, Method> methods(Class<?> type) {
        Map<String, Method> r = new LinkedHashMap<>();
        for (Method m : type.getDeclaredMethods()) {
            m.setAccessible(true);
            r.put(m.getName() + "/" + m.getParameterCount(), m);
        }
        return r;
    }

    private void call(String name, Object... args) throws Exception {
        String key = name + "/" + args.length;
        Object got = REAL.get(key).invoke(x, args);
        Object want = PLAIN.get(key).invoke(plain, args);
        String text = name + java.util.Arrays.toString(args);
        log.add(text + " = " + got);
        if (!got.equals(want)) {
            System.out.println(String.join("\n", log.subList(Math.max(0, log.size() - 40), log.size())));
            throw new IllegalStateException(text + " answered " + got + ", due is " + want);
        }
    }

    private int odd(int least, int most, int wildOneIn) {
        int[] wild = {Integer.MIN_VALUE, -3, -2, -1, least - 1, most + 1, most + 2, 128, 1000, Integer.MAX_VALUE};
        if (random.nextInt(wildOneIn) == 0) {
            return wild[random.nextInt(wild.length)];
        }
        return least + random.nextInt(most - least + 1);
    }

    private int pointsHere() {
        int n = plain.look(slot, 0);
        return n < 1 ? 4 : n;
    }

    private int member() {
        int size = plain.look(slot, 1);
        return size < 1 ? 0 : plain.set(slot, random.nextInt(size));
    }

    private int argument(String kind, int before) {
        if (kind.startsWith("what")) {
            return odd(0, Integer.parseInt(kind.substring(4)) - 1, 30);
        }
        int n = pointsHere();
        switch (kind) {
            case "slot":
                slot = odd(0, 2, 40);
                return slot;
            case "to":
                return odd(0, 2, 40);
            case "set":
                return random.nextInt(3) > 0 ? member() : odd(0, (1 << n) - 1, 30);
            case "k":
                return odd(0, Math.max(1, plain.look(slot, 1)), 30);
            case "kmany":
                return random.nextBoolean() ? -1 : odd(0, 200, 20);
            case "point":
            case "level":
                return odd(0, kind.equals("point") ? n - 1 : n, 30);
            case "i":
                return n < 2 ? odd(0, 1, 20) : odd(0, n - 2, 30);
            case "j":
                return before >= 0 && before < n - 1 && random.nextInt(10) > 0
                        ? before + 1 + random.nextInt(n - 1 - before) : odd(0, n - 1, 20);
            case "n":
                return odd(1, 7, 30);
            case "n20":
                return odd(0, 20, 20);
            case "m":
                return odd(0, 10, 20);
            case "c":
                return odd(1, 7, 30);
            case "few":
                return odd(0, 6, 20);
            case "big":
                return random.nextBoolean() ? odd(0, 60, 20) : odd(0, 100000, 20);
            case "tries":
                return random.nextInt(3) > 0 ? odd(1, 300, 30) : random.nextInt(20) > 0 ? 2000 : 50000;
            case "round":
                return odd(0, new int[] {1, 1, 1, 2, 6, 24, 120, 720}[n] - 1, 30);
            default:
                throw new IllegalStateException(kind);
        }
    }

    private String someText() {
        int n = 1 + random.nextInt(7);
        int oneIn = 1 + random.nextInt(1 + random.nextInt(30));
        StringBuilder text = new StringBuilder("family ").append(n);
        List<String> sets = new ArrayList<>();
        for (int s = 0; s < (1 << n); s++) {
            if (random.nextInt(oneIn) == 0 && sets.size() < 90) {
                StringBuilder one = new StringBuilder();
                for (int p = 0; p < n; p++) {
                    if ((s & (1 << p)) != 0) {
                        one.insert(random.nextInt(one.length() + 1), p);
                    }
                }
                sets.add(random.nextInt(sets.size() + 1), s == 0 ? "none" : one.toString());
            }
        }
        if (random.nextInt(2) == 0) {
            sets.remove("none");
        }
        String comma = random.nextInt(3) > 0 ? "," : " ,\n";
        text.append(sets.isEmpty() ? "" : ":").append(String.join(comma, sets)).append(';');
        if (random.nextInt(3) == 0) {
            spoil(text);
        }
        return text.toString();
    }

    private void spoil(StringBuilder text) {
        String signs = "family none;:,,0123456789  \n\tA\u00e9xyz";
        for (int times = 1 + random.nextInt(2); times > 0; times--) {
            int i = random.nextInt(text.length());
            char sign = signs.charAt(random.nextInt(signs.length()));
            int way = random.nextInt(4);
            if (way == 0) {
                text.setCharAt(i, sign);
            } else if (way == 1) {
                text.insert(i, sign);
            } else if (way == 2) {
                text.deleteCharAt(i);
            } else {
                text.append(sign);
            }
        }
    }

    private void feedText(String text) throws Exception {
        int before = plain.count(2);
        for (int i = 0; i < text.length(); i += 20) {
            Object[] numbers = new Object[5];
            for (int w = 0; w < 5; w++) {
                numbers[w] = Texts.piece(text, i)[w];
            }
            call("feed", numbers);
        }
        call("end", before + text.length());
        if (random.nextInt(6) == 0) {
            call("end", odd(0, 800, 3));
        }
    }

    private void run(int calls) throws Exception {
        while (log.size() < calls) {
            if (random.nextInt(12) == 0) {
                if (random.nextInt(10) > 0) {
                    call("end", 0);
                }
                feedText(someText());
                call("told", odd(0, 2, 40));
                call("fault", 0);
                call("fault", 1);
            }
            String[] words = CALLS[random.nextInt(CALLS.length)].split(" ");
            if (words[0].equals("drops") && random.nextInt(3) > 0) {
                continue;
            }
            Object[] args = new Object[words.length - 1];
            int before = 0;
            for (int i = 1; i < words.length; i++) {
                before = argument(words[i], before);
                args[i - 1] = before;
            }
            call(words[0], args);
        }
        for (int i = 0; i < 12; i++) {
            call("undo");
            call("count", 0);
            call("tell", i % 3);
        }
        while (log.size() < MOST_CALLS) {
            call("octet", log.size() - MOST_CALLS + plain.count(3));
        }
    }

    private static int readTexts() throws Exception {
        int texts = 0;
        for (int seed = 1; seed <= 400; seed++) {
            AgainstPlainTest t = new AgainstPlainTest(1000 + seed);
            for (int i = 0; i < 10; i++) {
                t.call("end", 0);
                StringBuilder text = new StringBuilder(t.someText());
                t.spoil(text);
                t.feedText(text.toString());
                t.call("told", i % 3);
                t.call("fault", 0);
                t.call("fault", 1);
                t.call("tell", i % 3);
                texts++;
                if (t.log.size() > MOST_CALLS - 100) {
                    break;
                }
            }
            while (t.log.size() < MOST_CALLS) {
                t.call("octet", MOST_CALLS - t.log.size() - 2);
            }
        }
        return texts;
    }

    public static void main(String[] args) throws Exception {
        int runs = args.length > 0 ? Integer.parseInt(args[0]) : 120;
        int first = args.length > 1 ? Integer.parseInt(args[1]) : 1;
        try {
            int texts = readTexts();
            for (int seed = first; seed < first + runs; seed++) {
                new AgainstPlainTest(seed).run(MOST_CALLS - 90);
            }
            System.out.println(runs + " runs and " + texts + " texts are as the plain reading has them");
        } catch (IllegalStateException e) {
            System.out.println(e.getMessage());
            System.exit(1);
        }
    }
}
