/** Texts put on the tape, and what an object has read back as texts. */
final class Texts {
    private Texts() {
    }

    /** Feeds a text behind the tape: whole pieces of twenty bytes, then cut to its length. */
    static int feed(MeetingSets x, String text) {
        int before = x.count(2);
        for (int i = 0; i < text.length(); i += 20) {
            int[] w = piece(text, i);
            x.feed(w[0], w[1], w[2], w[3], w[4]);
        }
        return x.end(before + text.length());
    }

    /** The five numbers for twenty bytes of a text, with blanks behind its end. */
    static int[] piece(String text, int from) {
        int[] w = new int[5];
        for (int b = 0; b < 20; b++) {
            int sign = from + b < text.length() ? text.charAt(from + b) : ' ';
            w[b / 4] = w[b / 4] << 8 | sign;
        }
        return w;
    }

    /** What a slot has, as N and the sets' numbers, or "nothing"; asked by calls that leave OUT alone. */
    static String in(MeetingSets x, int slot) {
        int n = x.look(slot, 0);
        if (n == -2) {
            return "nothing";
        }
        StringBuilder text = new StringBuilder().append(n).append(':');
        int set = x.set(slot, 0);
        for (int k = 1; set >= 0; k++) {
            text.append(k == 1 ? "" : ",").append(set);
            set = x.set(slot, k);
        }
        return text.toString();
    }

    static String out(MeetingSets x) {
        StringBuilder text = new StringBuilder();
        int sign = x.octet(0);
        for (int i = 1; sign >= 0; i++) {
            text.append((char) sign);
            sign = x.octet(i);
        }
        return text.toString();
    }
}
