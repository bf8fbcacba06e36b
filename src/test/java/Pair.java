import java.lang.reflect.Method;
import java.util.ArrayList;
import java.util.Arrays;
import java.util.LinkedHashMap;
import java.util.List;
import java.util.Map;

/** An object and its plain reading, of which each call is asked; it is wrong if they don't answer alike. */
final class Pair {
    /** What the arguments of each call are, a word for each; the slot comes first where there is one. */
    static final String[] CALLS = {
        "told slot", "fault what2", "count what4", "look slot what7", "set slot k", "has slot set",
        "is slot what11", "degree slot point", "order slot point", "level slot level", "makes slot what10 to",
        "part slot point what2 to", "shift slot i j", "would slot i j", "settles slot", "row slot n level m",
        "all slot n level point", "least big level", "cascade big level few", "choose n20 n20",
        "most slot what4 tries", "takes slot what4 tries to", "cover slot", "colours slot tries",
        "colour slot c tries k", "steps slot set set", "arcs slot round", "around n round point",
        "rounds n set", "sum slot what2", "shattered slot set", "shatters slot what2", "flower slot kmany",
        "across slot to what4", "answers slot level", "alike slot to", "selves slot", "adds slot set",
        "without slot set what7", "cuts slot set", "drops slot", "undo", "tell slot", "octet kmany",
        "common slot set level", "lacks slot k", "moved slot", "together slot point point what2", "half slot",
        "next slot set", "apart slot kmany", "covers slot k", "height slot set", "trace slot set to",
        "joint slot to what4 to", "rank set", "ranked level k"};

    /** What later calls on an object answer is free. */
    static final int MOST_CALLS = 512;

    private static final Map<String, Method> REAL = methods(MeetingSets.class);
    private static final Map<String, Method> PLAIN = methods(PlainSets.class);

    final PlainSets plain = new PlainSets();
    private final MeetingSets x = new MeetingSets();
    private final List<String> log = new ArrayList<>();

    private static Map<String, Method> methods(Class<?> type) {
        Map<String, Method> r = new LinkedHashMap<>();
        for (Method m : type.getDeclaredMethods()) {
            m.setAccessible(true);
            r.put(m.getName() + "/" + m.getParameterCount(), m);
        }
        return r;
    }

    /** How many calls the object has been used for. */
    int calls() {
        return log.size();
    }

    int call(String name, Object... args) throws Exception {
        String key = name + "/" + args.length;
        Object got = REAL.get(key).invoke(x, args);
        Object want = PLAIN.get(key).invoke(plain, args);
        String text = name + Arrays.toString(args);
        log.add(text + " = " + got);
        if (!got.equals(want)) {
            System.out.println(String.join("\n", log.subList(Math.max(0, log.size() - 40), log.size())));
            throw new IllegalStateException(text + " answered " + got + ", due is " + want);
        }
        return (Integer) got;
    }
}
