import java.lang.reflect.InvocationTargetException;
import java.lang.reflect.Method;
import java.util.HashMap;
import java.util.Map;

/**
 * One object under test, asked by rows such as "look(0, 6) = 3"; the rows "in(1) = 4:0,1" and "out() = family 4;"
 * ask for a whole slot and for OUT. What an object answers behind its 512th call is free, so a test that asks
 * more of it is wrong.
 */
final class Subject {
    private static final int MOST_CALLS = 512;
    private static final Map<String, Method> METHODS = methods();

    private final MeetingSets x = new MeetingSets();
    private final StringBuilder told = new StringBuilder();
    private int calls;

    private static Map<String, Method> methods() {
        Map<String, Method> map = new HashMap<>();
        for (Method m : MeetingSets.class.getMethods()) {
            if (m.getDeclaringClass() == MeetingSets.class) {
                map.put(m.getName(), m);
            }
        }
        return map;
    }

    /** A new object whose slots 0, 1 .. have the families of these texts; "" leaves a slot as it is. */
    static Subject of(String... texts) {
        Subject s = new Subject();
        for (int slot = 0; slot < texts.length; slot++) {
            if (!texts[slot].isEmpty() && s.put(slot, texts[slot]) < 0) {
                throw new IllegalArgumentException(texts[slot]);
            }
        }
        return s;
    }

    /** A new object with all sets of n points in slot 0. */
    static Subject full(int n) {
        Subject s = new Subject();
        s.ask("row(0, " + n + ", " + n + ", 1)");
        s.ask("makes(0, 2, 0)");
        return s;
    }

    private void used(int more) {
        calls += more;
        if (calls > MOST_CALLS) {
            throw new IllegalStateException("more than 512 calls: " + told);
        }
    }

    private int put(int slot, String text) {
        tape(text);
        return ask("told(" + slot + ")");
    }

    /** Feeds a text behind the tape. */
    Subject tape(String text) {
        used(2 + (text.length() + 19) / 20);
        told.append(" '").append(text).append('\'');
        Texts.feed(x, text);
        return this;
    }

    private static int number(String text) {
        switch (text) {
            case "MIN":
                return Integer.MIN_VALUE;
            case "MAX":
                return Integer.MAX_VALUE;
            default:
                return Integer.decode(text);
        }
    }

    private static Object[] arguments(String call) {
        String inside = call.substring(call.indexOf('(') + 1, call.length() - 1).trim();
        if (inside.isEmpty()) {
            return new Object[0];
        }
        String[] words = inside.split(", *");
        Object[] numbers = new Object[words.length];
        for (int i = 0; i < words.length; i++) {
            numbers[i] = number(words[i]);
        }
        return numbers;
    }

    /** What a call such as "look(0, 6)" answers. */
    int ask(String call) {
        used(1);
        told.append(' ').append(call);
        Method m = METHODS.get(call.substring(0, call.indexOf('(')));
        try {
            return (Integer) m.invoke(x, arguments(call));
        } catch (InvocationTargetException | IllegalAccessException e) {
            throw new IllegalStateException(told.toString(), e);
        }
    }

    private String answer(String call) {
        if (call.equals("out()")) {
            String text = Texts.out(x);
            used(text.length() + 1);
            return text;
        }
        if (call.startsWith("in(")) {
            String text = Texts.in(x, (Integer) arguments(call)[0]);
            used(2 + text.split(",").length);
            return text;
        }
        return String.valueOf(ask(call));
    }

    /** Asks row by row. */
    Subject asks(String... rows) {
        for (String row : rows) {
            int at = row.indexOf(" = ");
            String call = row.substring(0, at);
            Sentences.due(told + " " + call, answer(call), row.substring(at + 3));
        }
        return this;
    }

    /** Tells a slot a text, whose answer is due. */
    Subject tells(int slot, String text, int want) {
        Sentences.due(told + " told " + slot + " '" + text + "'", String.valueOf(put(slot, text)), String.valueOf(want));
        return this;
    }

    /** A text that has a fault, which is due with its place. */
    Subject faulty(String text, int number, int place) {
        return tells(0, text, -4).asks("fault(0) = " + number, "fault(1) = " + place);
    }

    /** A call with % as one argument: -2 outside of the bounds, something else at them. */
    Subject bounds(String call, int least, int most) {
        if (most < Integer.MAX_VALUE) {
            refuses(call, String.valueOf(most + 1), "MAX");
        }
        refuses(call, String.valueOf(least - 1), "MIN");
        takesIt(call, least);
        takesIt(call, most);
        return this;
    }

    /** As bounds(), of a number that has no upper one. */
    Subject atLeast(String call, int least) {
        return bounds(call, least, Integer.MAX_VALUE);
    }

    private void refuses(String call, String... numbers) {
        for (String n : numbers) {
            asks(call.replace("%", n) + " = -2");
        }
    }

    private void takesIt(String call, int number) {
        String asked = call.replace("%", String.valueOf(number));
        Sentences.due(told + " " + asked + " is refused", ask(asked) == -2 ? "yes" : "no", "no");
    }

    /** Rows by which nothing may change. */
    Subject stays(String... rows) {
        String before = state();
        asks(rows);
        Sentences.due(told + " changed something", state(), before);
        return this;
    }

    /** Slots, acts, the tape's length, the fault and OUT. */
    private String state() {
        StringBuilder text = new StringBuilder();
        String[] calls = {"in(0)", "in(1)", "in(2)", "count(1)", "count(2)", "fault(0)", "fault(1)", "out()"};
        int before = told.length();
        for (String call : calls) {
            text.append(call).append(' ').append(answer(call)).append(' ');
        }
        told.setLength(before);
        return text.toString();
    }
}
