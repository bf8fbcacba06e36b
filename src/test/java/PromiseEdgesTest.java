import java.util.ArrayList;
import java.util.List;

/** The promises one by one: each sentence that names an edge, at it and on both sides of it. */
public final class PromiseEdgesTest {
    private static final int[] ROUNDS = {0, 1, 1, 2, 6, 24, 120, 720};

    private static Subject of(String... texts) {
        return Subject.of(texts);
    }

    /** The same family in all three slots. */
    private static Subject three(String text) {
        return Subject.of(text, text, text);
    }

    private static void promise(int number) {
        Sentences.section("Promise " + number);
    }

    private static void says(String words) {
        Sentences.says(words);
    }

    private static int c(int n, int k) {
        return k < 0 || k > n ? 0 : k == 0 ? 1 : c(n - 1, k - 1) * n / k;
    }

    private static int whole(int n) {
        return (1 << n) - 1;
    }

    private static String allPoints(int n) {
        return "0123456".substring(0, n);
    }

    // ---- the tape

    private static void p1() {
        promise(1);
        says("SLOTS have nothing.");
        of().asks("count(0) = 0", "in(0) = nothing", "in(1) = nothing", "in(2) = nothing", "drops(0) = 0", "drops(1) = 0",
                "drops(2) = 0", "count(1) = 0", "count(2) = 0", "count(3) = 0", "undo() = -1", "octet(0) = -1");
        of("family 3:0;", "family 3:0;", "family 3:0;").asks("count(0) = 7");
        of().asks("count(0) = 0");
    }

    private static void p2() {
        promise(2);
        says("Twenty bytes come behind the TAPE, four of each number, the highest first: how many it has");
        // a sign that can't stand there tells where each of the twenty bytes is
        for (int place = 0; place < 20; place++) {
            String text = " ".repeat(place) + "!" + " ".repeat(19 - place);
            of().tape(text).asks("count(2) = 20", "told(0) = -4", "fault(0) = 1", "fault(1) = " + place);
        }
        of().asks("feed(0x66616d69, 0x6c792033, 0x3a30312c, 0x322c303b, 0x0a0a2020) = 20", "told(0) = 3", "in(0) = 3:1,3,4");
        // bytes of 128 and more, alone and all
        of().asks("feed(-1, -1, -1, -1, -1) = 20", "told(0) = -4", "fault(1) = 0");
        of().asks("feed(0x20202020, MIN, 0, 0, 0) = 20", "told(0) = -4", "fault(1) = 4");
        of().asks("feed(0x20202020, 0x202020ff, 0, 0, 0) = 20", "told(0) = -4", "fault(1) = 7");
        // behind what is there, from where the tape was cut
        of().tape("family 3:0").asks("feed(0x312c323b, 0x20202020, 0x20202020, 0x20202020, 0x20202020) = 30", "told(0) = 2",
                "in(0) = 3:3,4");
        says("NONE, and none come, if it would have more than 800.");
        Subject x = of();
        for (int i = 1; i <= 40; i++) {
            x.asks("feed(0x20202020, 0x20202020, 0x20202020, 0x20202020, 0x20202020) = " + 20 * i);
        }
        x.asks("feed(0, 0, 0, 0, 0) = -1", "count(2) = 800", "end(799) = 799", "feed(0, 0, 0, 0, 0) = -1", "count(2) = 799",
                "end(781) = 781", "feed(0, 0, 0, 0, 0) = -1", "count(2) = 781");
        x.asks("end(780) = 780", "feed(0x20202020, 0x20202020, 0x20202020, 0x20202020, 0x20202020) = 800",
                "feed(0, 0, 0, 0, 0) = -1", "count(2) = 800");
        // nothing but blanks came: the end is the fault; and the tape takes bytes again
        x.asks("told(0) = -4", "fault(0) = 1", "fault(1) = 800", "count(2) = 0", "feed(0, 0, 0, 0, 0) = 20");
    }

    private static void p3() {
        promise(3);
        says("The TAPE has its first n bytes alone: n");
        of().tape("family 3:0;family 4:1;").asks("end(11) = 11", "count(2) = 11", "told(0) = 1", "in(0) = 3:1");
        of().tape("family 3:0;").asks("end(11) = 11", "told(0) = 1");
        of().tape("family 3:0;").asks("end(10) = 10", "told(0) = -4", "fault(1) = 10");
        of().tape("family 3:0;").asks("end(0) = 0", "count(2) = 0", "told(0) = -4", "fault(1) = 0");
        of().asks("end(0) = 0");
        says("NONE, and nothing happens, if it has not so many, or n is below 0.");
        of().asks("end(1) = -1", "end(-1) = -1", "count(2) = 0");
        of().tape("family 3:0;").stays("end(12) = -1", "end(-1) = -1", "end(MIN) = -1", "end(MAX) = -1", "end(800) = -1")
                .asks("told(0) = 1", "end(1) = -1");
        // bytes that were cut off are not there
        of().tape("family 3:0;").asks("end(8) = 8", "end(9) = -1", "end(11) = -1", "count(2) = 8");
    }

    private static void p4() {
        promise(4);
        says("The TAPE (empty then) tells the FAMILY of a SLOT: how many SETS.");
        for (int slot = 0; slot < 3; slot++) {
            of().tells(slot, "family 3;", 0).asks("count(2) = 0", "count(0) = " + (1 << slot), "in(" + slot + ") = 3:")
                    .tells(slot, "family 4:none;", 1).asks("in(" + slot + ") = 4:0", "count(2) = 0")
                    .asks("told(" + slot + ") = -4", "fault(0) = 1", "fault(1) = 0");
        }
        StringBuilder all = new StringBuilder("family 7:none");
        for (int s = 1; s < 128; s++) {
            all.append(',');
            for (int p = 0; p < 7; p++) {
                all.append((s >> p & 1) == 1 ? "" + p : "");
            }
        }
        of().tells(0, all + ";", 128).asks("look(0, 1) = 128", "has(0, 127) = 1", "count(2) = 0");
        of().tells(0, all.toString().replace("none,", "") + ";", 127).asks("has(0, 0) = 0");
        // 800 bytes, the last of which tells
        of().tells(0, "family 2:0" + " ".repeat(789) + ";", 1).faulty("family 2:0" + " ".repeat(790), 1, 800);
        says("-4: a FAULT (the TAPE is empty, all else stays)");
        of("family 3:0;", "family 3:1;").asks("tell(1) = 11").tells(0, "family 4:2", -4).asks("in(0) = 3:1", "in(1) = 3:2",
                "in(2) = nothing", "count(2) = 0", "count(1) = 2", "out() = family 3:1;");
        of("family 3:0;").tells(1, "family 4:2,2;", -4).asks("in(1) = nothing", "count(0) = 1", "count(1) = 1", "count(2) = 0");
        of("family 3:0;").asks("told(0) = -4", "in(0) = 3:1", "count(2) = 0", "undo() = 0", "in(0) = nothing");
        says("-2: no such SLOT (the TAPE stays).");
        of("family 3:0;").tape("family 4:3;").stays("told(3) = -2", "told(-1) = -2", "told(MIN) = -2", "told(MAX) = -2")
                .asks("told(2) = 1", "in(2) = 4:8");
        of().stays("told(3) = -2").asks("fault(0) = 0", "fault(1) = -1");
    }

    private static void p5() {
        promise(5);
        says("Of the latest told() that was not -2");
        of().faulty("family 3:0,0;", 4, 11).asks("told(3) = -2", "fault(0) = 4", "fault(1) = 11");
        of().faulty("family 3:0,0;", 4, 11).faulty("family 8;", 2, 7).tells(0, "family 3;", 0)
                .asks("fault(0) = 0", "fault(1) = -1").tape("family 9;").asks("told(-1) = -2", "fault(0) = 0", "fault(1) = -1");
        says("what 0: its FAULT, 0 without");
        of().faulty("x", 1, 0).faulty("family 0;", 2, 7).faulty("family 1:1;", 3, 9).faulty("family 1:0,0;", 4, 11);
        of("family 3;").asks("fault(0) = 0");
        says("1: its place (NONE without).");
        of("family 3;").asks("fault(1) = -1");
        of().faulty("", 1, 0).faulty("family 1;;", 1, 9).tells(0, "family 1;", 0).asks("fault(1) = -1");
        of().faulty(" ".repeat(799) + "x", 1, 799);
        of().faulty(" ".repeat(800), 1, 800);
        says("NONE for another what, and ahead of any (what 1).");
        of().asks("fault(0) = 0", "fault(1) = -1", "fault(2) = -1", "fault(-1) = -1");
        of().asks("told(5) = -2", "fault(1) = -1", "fault(0) = 0");
        of().faulty("family 0;", 2, 7).asks("fault(2) = -1", "fault(-1) = -1", "fault(MIN) = -1", "fault(MAX) = -1");
    }

    private static void p6() {
        promise(6);
        says("0 SLOTS with a FAMILY (it may be of no SETS), as bits");
        of().asks("count(0) = 0");
        for (int bits = 0; bits < 8; bits++) {
            of((bits & 1) > 0 ? "family 1;" : "", (bits & 2) > 0 ? "family 7:0;" : "", (bits & 4) > 0 ? "family 3;" : "")
                    .asks("count(0) = " + bits);
        }
        of("family 3:0;").asks("cuts(0, 1) = 0", "count(0) = 1", "drops(0) = 1", "count(0) = 0");
        says("1 acts that can be undone");
        of().asks("count(1) = 0", "row(0, 3, 1, 1) = 1", "count(1) = 1", "undo() = 0", "count(1) = 0", "undo() = -1",
                "count(1) = 0");
        Subject x = of();
        for (int i = 1; i <= 12; i++) {
            x.asks("row(0, 7, 2, " + i + ") = " + twoAt(i - 1), "count(1) = " + Math.min(10, i));
        }
        says("2 bytes of the TAPE");
        of().asks("count(2) = 0", "feed(0, 0, 0, 0, 0) = 20", "count(2) = 20", "end(1) = 1", "count(2) = 1");
        says("3 of OUT.");
        of("family 1;", "family 3:none;").asks("count(3) = 0", "tell(0) = 9", "count(3) = 9", "tell(1) = 14", "count(3) = 14",
                "tell(2) = -2", "count(3) = 14");
        Subject.full(7).asks("tell(0) = 589", "count(3) = 589");
        says("NONE for others.");
        of().asks("count(4) = -1", "count(-1) = -1", "count(MIN) = -1", "count(MAX) = -1", "count(3) = 0");
    }

    private static int twoAt(int k) {
        int seen = -1;
        for (int s = 0; s < 128; s++) {
            seen += Integer.bitCount(s) == 2 ? 1 : 0;
            if (seen == k) {
                return s;
            }
        }
        return -1;
    }

    // ---- looking

    private static void p7() {
        promise(7);
        says("what 0: N, 1: SETS");
        for (int n = 1; n <= 7; n++) {
            of("family " + n + ";").asks("look(0, 0) = " + n, "look(0, 1) = 0");
            Subject.full(n).asks("look(0, 0) = " + n, "look(0, 1) = " + (1 << n));
        }
        says("2: the least, 3: the greatest LEVEL of a SET (NONE without SETS)");
        of("family 4;").asks("look(0, 2) = -1", "look(0, 3) = -1");
        of("family 4:none;").asks("look(0, 2) = 0", "look(0, 3) = 0");
        of("family 4:0123;").asks("look(0, 2) = 4", "look(0, 3) = 4");
        of("family 4:01,123;").asks("look(0, 2) = 2", "look(0, 3) = 3");
        Subject.full(7).asks("look(0, 2) = 0", "look(0, 3) = 7");
        says("4: POINTS that some SET has");
        of("family 4;").asks("look(0, 4) = 0");
        of("family 4:none;").asks("look(0, 4) = 0");
        of("family 7:0,6;").asks("look(0, 4) = 65");
        Subject.full(7).asks("look(0, 4) = 127");
        says("5: that all have (all POINTS without SETS)");
        for (int n = 1; n <= 7; n++) {
            of("family " + n + ";").asks("look(0, 5) = " + whole(n));
            of("family " + n + ":" + allPoints(n) + ";").asks("look(0, 5) = " + whole(n));
            of("family " + n + ":" + allPoints(n) + ",none;").asks("look(0, 5) = 0");
        }
        of("family 4:01,12;").asks("look(0, 5) = 2");
        says("6: twos of unlike SETS that are APART.");
        of("family 4;").asks("look(0, 6) = 0");
        of("family 4:none;").asks("look(0, 6) = 0");
        of("family 4:none,0;").asks("look(0, 6) = 1");
        of("family 4:0,0123;").asks("look(0, 6) = 0");
        // of all: each point in one, in the other, or in none, less none and none, either way round
        Subject.full(7).asks("look(0, 6) = " + (2187 - 1) / 2);
        says("-2.");
        three("family 4:0;").bounds("look(%, 0)", 0, 2).bounds("look(0, %)", 0, 6);
        of().stays("look(0, 0) = -2", "look(0, 5) = -2");
    }

    private static void p8() {
        promise(8);
        says("The k-th SET (from 0).");
        of("family 7:0123456,none,6;").asks("set(0, 0) = 0", "set(0, 1) = 64", "set(0, 2) = 127");
        Subject.full(7).asks("set(0, 0) = 0", "set(0, 63) = 63", "set(0, 64) = 64", "set(0, 127) = 127", "set(0, 128) = -1");
        says("NONE: not so many");
        of("family 7:0123456,none,6;").asks("set(0, 3) = -1", "set(0, MAX) = -1");
        of("family 3;").asks("set(0, 0) = -1");
        says("-2 (k below 0, too).");
        three("family 3:0;").bounds("set(%, 0)", 0, 2).atLeast("set(0, %)", 0);
        of().asks("set(0, 0) = -2", "set(0, -1) = -2");
    }

    private static void p9() {
        promise(9);
        says("1 if a SET is in the FAMILY, else 0.");
        of("family 3:none,012;").asks("has(0, 0) = 1", "has(0, 1) = 0", "has(0, 6) = 0", "has(0, 7) = 1");
        of("family 7:345,6;").asks("has(0, 56) = 1", "has(0, 63) = 0", "has(0, 64) = 1", "has(0, 65) = 0", "has(0, 127) = 0");
        of("family 3;").asks("has(0, 0) = 0", "has(0, 7) = 0");
        says("-2.");
        for (int n = 1; n <= 7; n++) {
            three("family " + n + ";").bounds("has(%, 0)", 0, 2).bounds("has(0, %)", 0, whole(n));
        }
        of().asks("has(0, 0) = -2");
    }

    /** Whether families are such, the ones that are and the ones that are not. */
    private static void such(int what, String[] yes, String[] no) {
        for (String text : yes) {
            of(text).asks("is(0, " + what + ") = 1");
        }
        for (String text : no) {
            of(text).asks("is(0, " + what + ") = 0");
        }
    }

    private static String[] f(String... sets) {
        String[] texts = new String[sets.length];
        for (int i = 0; i < sets.length; i++) {
            texts[i] = "family 4:" + sets[i] + ";";
        }
        return texts;
    }

    private static void p10() {
        promise(10);
        says("0: any two SETS (one with itself, too) MEET");
        such(0, f("0", "0,01", "01,02,12", "0123"), f("none", "0,1", "none,0", "01,02,12,3"));
        says("1: all of one LEVEL");
        such(1, f("none", "0", "0,3", "01,23", "0123"), f("none,0", "0,01", "01,02,123"));
        says("2: with each SET all within it");
        such(2, f("none", "none,0", "none,0,1", "none,0,1,01"), f("0", "none,0,01", "none,0,1,012", "none,01"));
        says("3: with each SET all that have it within them");
        such(3, f("0123", "012,0123", "012,013,0123"), f("none", "012", "01,012,0123", "01,0123"));
        says("4: of any two SETS one is within the other");
        such(4, f("none", "0", "0,01", "none,0,01,012,0123", "1,12", "3,23,123", "2,23"),
                f("0,1", "none,0,1", "0,01,02", "2,13", "3,23,12"));
        of("family 7:6,56,0123456;").asks("is(0, 4) = 1", "adds(0, 32) = 4", "is(0, 4) = 0");
        says("5: of no two unlike SETS one is within the other");
        such(5, f("none", "0123", "0,1", "01,02,12,3"), f("none,0", "0,01", "0,1,0123"));
        says("6: some POINT is in all SETS");
        such(6, f("0", "3", "01,12", "0123", "03,13,3"), f("none", "0,1", "01,02,12", "none,0"));
        says("7: SHIFTED");
        such(7, f("none", "0", "0,1", "0123", "01,02", "none,0,01"), f("1", "3", "12", "0,2", "02"));
        says("8: any three SETS (some of them may be one) have a POINT in common");
        such(8, f("0", "01,12", "012,013,023,123", "0123"), f("none", "0,1", "01,02,12", "012,013,23"));
        says("9: with any two what they have in common");
        such(9, f("none", "0", "0,01", "none,0,1", "1,01,12"), f("0,1", "01,12", "none,01,12", "012,013,023,01,02,03"));
        says("10: what they have together");
        such(10, f("none", "0", "0,01", "0,1,01", "01,12,012"), f("0,1", "01,12", "none,0,1", "0,1,2,01,02,12"));
        // all points but the last, and the last alone
        String[] such = {"11001111111", "11001110111"};
        for (int what = 0; what <= 10; what++) {
            of("family 7:012345;", "family 7:6;").asks("is(0, " + what + ") = " + such[0].charAt(what),
                    "is(1, " + what + ") = " + such[1].charAt(what));
        }
        says("1, else 0 (of no SETS 1).");
        for (int what = 0; what <= 10; what++) {
            of("family 1;", "family 4;", "family 7;").asks("is(0, " + what + ") = 1", "is(1, " + what + ") = 1",
                    "is(2, " + what + ") = 1");
        }
        // of all sets, and of one point
        int[] all = {0, 0, 1, 1, 0, 0, 0, 1, 0, 1, 1};
        int[] one = {0, 0, 1, 1, 1, 0, 0, 1, 0, 1, 1};
        for (int what = 0; what <= 10; what++) {
            Subject.full(7).asks("is(0, " + what + ") = " + all[what]);
            Subject.full(1).asks("is(0, " + what + ") = " + one[what]);
        }
        says("-2.");
        three("family 4:0;").bounds("is(%, 0)", 0, 2).bounds("is(0, %)", 0, 10);
        of().asks("is(0, 0) = -2");
    }

    private static void p11() {
        promise(11);
        says("How many SETS have a POINT.");
        of("family 7;").asks("degree(0, 0) = 0", "degree(0, 6) = 0");
        of("family 7:none;").asks("degree(0, 0) = 0");
        of("family 7:0,06,6,16;").asks("degree(0, 0) = 2", "degree(0, 1) = 1", "degree(0, 5) = 0", "degree(0, 6) = 3");
        for (int n = 1; n <= 7; n++) {
            Subject.full(n).asks("degree(0, 0) = " + (1 << n - 1), "degree(0, " + (n - 1) + ") = " + (1 << n - 1));
        }
        says("-2.");
        for (int n = 1; n <= 7; n++) {
            three("family " + n + ";").bounds("degree(%, 0)", 0, 2).bounds("degree(0, %)", 0, n - 1);
        }
        of().asks("degree(0, 0) = -2");
    }

    private static void p12() {
        promise(12);
        says("The k-th POINT (from 0) by how many SETS have it, the most first, of like ones the lesser.");
        of("family 4:3,13,1,2;").asks("order(0, 0) = 1", "order(0, 1) = 3", "order(0, 2) = 2", "order(0, 3) = 0");
        of("family 7;").asks("order(0, 0) = 0", "order(0, 3) = 3", "order(0, 6) = 6");
        of("family 7:6;").asks("order(0, 0) = 6", "order(0, 1) = 0", "order(0, 6) = 5");
        of("family 1:0;").asks("order(0, 0) = 0");
        says("-2 (k 0 .. N less 1).");
        for (int n = 1; n <= 7; n++) {
            three("family " + n + ":0;").bounds("order(%, 0)", 0, 2).bounds("order(0, %)", 0, n - 1);
        }
        of().asks("order(0, 0) = -2");
    }

    private static void p13() {
        promise(13);
        says("How many SETS are of a LEVEL (0 .. N).");
        for (int n = 1; n <= 7; n++) {
            Subject x = Subject.full(n);
            for (int k = 0; k <= n; k++) {
                x.asks("level(0, " + k + ") = " + c(n, k));
            }
            x.bounds("level(0, %)", 0, n);
        }
        of("family 3;").asks("level(0, 0) = 0", "level(0, 3) = 0");
        says("-2.");
        three("family 3:0;").bounds("level(%, 0)", 0, 2).bounds("level(0, %)", 0, 3);
        of().asks("level(0, 0) = -2");
    }

    // ---- making

    private static void p14() {
        promise(14);
        says("Into a SLOT (it may be the same) comes what is made of a FAMILY");
        for (int to = 0; to < 3; to++) {
            Subject x = of("family 3:01;").asks("makes(0, 0, " + to + ") = 2", "in(" + to + ") = 3:1,2", "count(1) = 2");
            x.asks("in(" + (to + 1) % 3 + ") = " + (to == 2 ? "3:3" : "nothing"), "undo() = 1", "in(0) = 3:3");
        }
        says("7: those SETS of it that have no other one of it within them, 8: that are within no other one of it");
        of("family 3:none,0,012;").asks("makes(0, 7, 1) = 1", "in(1) = 3:0", "makes(0, 8, 1) = 1", "in(1) = 3:7");
        of("family 3:0,1;").asks("makes(0, 7, 1) = 2", "makes(0, 8, 1) = 2", "in(1) = 3:1,2");
        of("family 3:0,012,2;").asks("makes(0, 7, 1) = 2", "in(1) = 3:1,4", "makes(0, 8, 1) = 1", "in(1) = 3:7");
        says("9: all SETS that MEET all of it, while none that has one POINT less does");
        of("family 3;").asks("makes(0, 9, 1) = 1", "in(1) = 3:0");
        of("family 3:none;").asks("makes(0, 9, 1) = 0", "in(1) = 3:");
        of("family 3:0;").asks("makes(0, 9, 1) = 1", "in(1) = 3:1");
        of("family 3:01,2;").asks("makes(0, 9, 1) = 2", "in(1) = 3:5,6");
        of("family 3:0,1,2;").asks("makes(0, 9, 1) = 1", "in(1) = 3:7");
        says("how many SETS.");
        for (int n = 1; n <= 7; n++) {
            int[] empty = {0, 0, 0, 0, 0, 0, 0, 0, 0, 1};
            int[] none = {0, n, 1, 1 << n, 1, 1, 1, 1, 1, 0};
            int[] top = {n, 0, 1 << n, 1, 1, 1, 1, 1, 1, n};
            int[] all = {whole(n), whole(n), 1 << n, 1 << n, 1 << n, 1 << n, 1 << n, 1, 1, 0};
            for (int what = 0; what <= 9; what++) {
                String call = "makes(0, " + what + ", 1) = ";
                String size = "look(1, 1) = ";
                of("family " + n + ";").asks(call + empty[what], size + empty[what], "look(1, 0) = " + n);
                of("family " + n + ":none;").asks(call + none[what], size + none[what], "look(1, 0) = " + n);
                of("family " + n + ":" + allPoints(n) + ";").asks(call + top[what], size + top[what], "look(1, 0) = " + n);
                Subject.full(n).asks(call + all[what], size + all[what], "look(1, 0) = " + n);
            }
        }
        // all points but the last, and the last alone
        int[] but = {6, 1, 64, 2, 1, 1, 1, 1, 1, 6};
        int[] last = {1, 6, 2, 64, 1, 1, 1, 1, 1, 1};
        for (int what = 0; what <= 9; what++) {
            of("family 7:012345;", "family 7:6;").asks("makes(0, " + what + ", 2) = " + but[what], "look(2, 1) = " + but[what],
                    "has(2, 63) = " + (what == 2 || what == 3 || what >= 5 && what <= 8 ? 1 : 0));
            of("family 7:012345;", "family 7:6;").asks("makes(1, " + what + ", 2) = " + last[what], "look(2, 1) = " + last[what],
                    "has(2, 64) = " + (what == 2 || what == 3 || what >= 5 ? 1 : 0));
        }
        says("-2.");
        three("family 3:0;").bounds("makes(%, 4, 0)", 0, 2).bounds("makes(0, %, 1)", 0, 9).bounds("makes(0, 4, %)", 0, 2);
        of("family 3:0;").stays("makes(1, 0, 0) = -2", "makes(0, 10, 1) = -2", "makes(0, -1, 1) = -2", "makes(0, 0, 3) = -2",
                "makes(0, 0, -1) = -2");
    }

    private static void p15() {
        promise(15);
        says("LINK (what 0), LEFT (1) of a POINT come into a SLOT: how many SETS.");
        for (int n = 1; n <= 7; n++) {
            for (int p = 0; p < n; p += Math.max(1, n - 1)) {
                Subject.full(n).asks("part(0, " + p + ", 0, 1) = " + (1 << n - 1), "part(0, " + p + ", 1, 2) = " + (1 << n - 1),
                        "across(1, 2, 2) = " + (1 << n - 1), "look(1, 0) = " + n, "degree(1, " + p + ") = 0",
                        "part(0, " + p + ", 0, 0) = " + (1 << n - 1), "alike(0, 1) = 1");
                of("family " + n + ";").asks("part(0, " + p + ", 0, 1) = 0", "in(1) = " + n + ":", "part(0, " + p + ", 1, 2) = 0",
                        "in(2) = " + n + ":");
            }
        }
        of("family 3:none,0,01,2;").asks("part(0, 0, 0, 1) = 2", "in(1) = 3:0,2", "part(0, 0, 1, 1) = 2", "in(1) = 3:0,4");
        says("-2.");
        for (int n = 1; n <= 7; n++) {
            three("family " + n + ":0;").bounds("part(%, 0, 1, 0)", 0, 2).bounds("part(0, %, 1, 1)", 0, n - 1)
                    .bounds("part(0, 0, %, 1)", 0, 1).bounds("part(0, 0, 1, %)", 0, 2);
        }
        of("family 3:0;").stays("part(1, 0, 0, 0) = -2", "part(0, 3, 0, 1) = -2", "part(0, 0, 2, 1) = -2",
                "part(0, 0, 0, 3) = -2");
    }

    private static void p16() {
        promise(16);
        says("SHIFT of i, j: how many SETS became others.");
        of("family 3;").asks("shift(0, 0, 1) = 0", "count(1) = 1");
        of("family 7:6,56;").asks("shift(0, 0, 6) = 2", "in(0) = 7:1,33", "count(1) = 2", "shift(0, 0, 6) = 0", "count(1) = 2",
                "undo() = 1", "in(0) = 7:64,96");
        of("family 7:6,5;").asks("shift(0, 5, 6) = 0", "in(0) = 7:32,64");
        of("family 7:6,05;").asks("shift(0, 5, 6) = 1", "in(0) = 7:32,33");
        Subject.full(7).asks("shift(0, 0, 1) = 0", "shift(0, 5, 6) = 0", "shift(0, 0, 6) = 0");
        // of all with 6 and without 0: those come that have 0 and not 6
        of().asks("all(0, 7, 1, 6) = 1", "makes(0, 3, 0) = 64", "shift(0, 0, 6) = 32", "degree(0, 0) = 64", "degree(0, 6) = 32");
        says("-2 (i not below j, too).");
        three("family 7:6;").bounds("shift(%, 0, 1)", 0, 2).bounds("shift(0, %, 6)", 0, 5).bounds("shift(0, 0, %)", 1, 6)
                .bounds("shift(0, 3, %)", 4, 6).bounds("shift(0, %, 3)", 0, 2);
        of("family 1:0;").stays("shift(0, 0, 0) = -2", "shift(0, 0, 1) = -2", "shift(0, -1, 0) = -2");
        of("family 3:2;").stays("shift(0, 2, 0) = -2", "shift(0, 2, 2) = -2", "shift(0, 2, 3) = -2", "shift(0, 0, 3) = -2",
                "shift(1, 0, 1) = -2");
    }

    private static void p17() {
        promise(17);
        says("How many SETS would become others by it.");
        of("family 3;").stays("would(0, 0, 1) = 0");
        of("family 7:6,56;").stays("would(0, 0, 6) = 2", "would(0, 5, 6) = 1", "would(0, 0, 1) = 0", "would(0, 4, 5) = 1");
        of("family 3:0,1;").stays("would(0, 0, 1) = 0", "would(0, 1, 2) = 0");
        Subject.full(7).asks("would(0, 0, 1) = 0", "would(0, 5, 6) = 0");
        says("-2.");
        three("family 7:6;").bounds("would(%, 0, 1)", 0, 2).bounds("would(0, %, 6)", 0, 5).bounds("would(0, 0, %)", 1, 6)
                .bounds("would(0, 3, %)", 4, 6).bounds("would(0, %, 3)", 0, 2);
        of("family 1:0;").asks("would(0, 0, 0) = -2", "would(0, 0, 1) = -2", "would(1, 0, 1) = -2");
    }

    private static void p18() {
        promise(18);
        says("SETTLED: how many SHIFTS changed something.");
        of("family 3;").asks("settles(0) = 0", "count(1) = 1");
        of("family 1:0;").asks("settles(0) = 0", "count(1) = 1");
        of("family 3:none,012;").asks("settles(0) = 0", "count(1) = 1");
        of("family 7:6;").asks("settles(0) = 1", "in(0) = 7:1", "count(1) = 2", "settles(0) = 0", "count(1) = 2", "undo() = 1",
                "in(0) = 7:64");
        // 456 by 0 4, 1 5, 2 6; one act
        of("family 7:456;").asks("settles(0) = 3", "in(0) = 7:7", "count(1) = 2", "is(0, 7) = 1");
        Subject.full(7).asks("settles(0) = 0");
        says("-2.");
        three("family 3:2;").bounds("settles(%)", 0, 2);
        of().asks("settles(0) = -2", "count(0) = 0");
    }

    private static void p19() {
        promise(19);
        says("ROW of K and m (0 .. C(N, K)) of N POINTS comes into a SLOT: the greatest SET (NONE without).");
        for (int n = 1; n <= 7; n++) {
            for (int k = 0; k <= n; k++) {
                String head = "row(1, " + n + ", " + k + ", ";
                int all = c(n, k);
                int top = whole(k) << n - k;
                of().asks(head + all + ") = " + top, "look(1, 1) = " + all, "level(1, " + k + ") = " + all);
                of().asks(head + "1) = " + whole(k), "in(1) = " + n + ":" + whole(k));
                of().asks(head + "0) = -1", "in(1) = " + n + ":", "count(0) = 2", "count(1) = 1");
                of().bounds(head + "%)", 0, all);
                if (all > 1) {
                    of().asks(head + (all - 1) + ") = " + (top ^ 1 << n - k ^ 1 << n - k - 1), "has(1, " + top + ") = 0");
                }
            }
        }
        says("-2.");
        three("family 3:0;").bounds("row(%, 3, 1, 1)", 0, 2).bounds("row(0, %, 1, 1)", 1, 7).bounds("row(0, 3, %, 1)", 0, 3)
                .bounds("row(0, 3, 1, %)", 0, 3);
        of("family 3:0;").stays("row(3, 3, 1, 1) = -2", "row(0, 0, 0, 0) = -2", "row(0, 8, 1, 1) = -2", "row(0, 3, 4, 0) = -2",
                "row(0, 3, -1, 0) = -2", "row(0, 3, 1, 4) = -2", "row(0, 3, 1, -1) = -2");
    }

    private static void p20() {
        promise(20);
        says("All SETS of LEVEL K of N POINTS that have a POINT (point NONE: all) come into a SLOT: how many.");
        for (int n = 1; n <= 7; n++) {
            for (int k = 0; k <= n; k++) {
                String head = "all(1, " + n + ", " + k + ", ";
                of().asks(head + "-1) = " + c(n, k), "look(1, 0) = " + n, "level(1, " + k + ") = " + c(n, k),
                        head + "0) = " + c(n - 1, k - 1), "look(1, 1) = " + c(n - 1, k - 1), "degree(1, 0) = " + c(n - 1, k - 1),
                        head + (n - 1) + ") = " + c(n - 1, k - 1), "degree(1, " + (n - 1) + ") = " + c(n - 1, k - 1));
                of().bounds(head + "%)", -1, n - 1);
            }
        }
        // a family of no sets comes, too
        of().asks("all(2, 3, 0, 1) = 0", "in(2) = 3:", "count(0) = 4", "count(1) = 1");
        says("-2.");
        three("family 3:0;").bounds("all(%, 3, 1, -1)", 0, 2).bounds("all(0, %, 1, -1)", 1, 7).bounds("all(0, 3, %, -1)", 0, 3)
                .bounds("all(0, 3, 1, %)", -1, 2);
        of("family 3:0;").stays("all(3, 3, 1, -1) = -2", "all(0, 0, 0, -1) = -2", "all(0, 8, 1, -1) = -2", "all(0, 3, 4, -1) = -2",
                "all(0, 3, -1, -1) = -2", "all(0, 3, 1, -2) = -2", "all(0, 3, 1, 3) = -2");
    }

    private static void p21() {
        promise(21);
        says("LEAST SHADOW of m (0 .. 100000) SETS of LEVEL k (1 .. 7).");
        for (int k = 1; k <= 7; k++) {
            of().bounds("least(%, " + k + ")", 0, 100000).asks("least(0, " + k + ") = 0", "least(1, " + k + ") = " + k);
            for (int a = k; a <= 12; a++) {
                // of all sets of a points all of them, and of one more all of those of another point
                of().asks("least(" + c(a, k) + ", " + k + ") = " + c(a, k - 1),
                        "least(" + (c(a, k) + 1) + ", " + k + ") = " + (c(a, k - 1) + (k == 1 ? 0 : k - 1)));
            }
        }
        // 100000 is C(447, 2) and 319
        of().asks("least(100000, 1) = 1", "least(100000, 2) = 448");
        of().bounds("least(100000, %)", 1, 7).bounds("least(0, %)", 1, 7);
        says("-2.");
        of().asks("least(-1, 1) = -2", "least(100001, 7) = -2", "least(1, 0) = -2", "least(1, 8) = -2", "least(-1, 0) = -2");
    }

    private static void p22() {
        promise(22);
        says("The i-th (from 0) of those a, b .. for m and k.");
        of().asks("cascade(1, 1, 0) = 1", "cascade(1, 7, 0) = 7", "cascade(7, 7, 0) = 7", "cascade(7, 7, 6) = 1",
                "cascade(100000, 1, 0) = 100000", "cascade(100000, 2, 0) = 447", "cascade(100000, 2, 1) = 319");
        says("NONE: not so many");
        for (int k = 1; k <= 7; k++) {
            of().asks("cascade(0, " + k + ", 0) = -1", "cascade(1, " + k + ", 1) = -1",
                    "cascade(" + k + ", " + k + ", " + k + ") = -1",
                    "cascade(" + k + ", " + k + ", " + (k - 1) + ") = 1", "cascade(1, " + k + ", MAX) = -1",
                    "cascade(100000, " + k + ", 7) = -1");
        }
        says("-2 (i below 0, too).");
        of().bounds("cascade(%, 3, 0)", 0, 100000).bounds("cascade(9, %, 0)", 1, 7).atLeast("cascade(9, 3, %)", 0)
                .asks("cascade(0, 3, -1) = -2");
    }

    private static void p23() {
        promise(23);
        says("C(n, k) (n 0 .. 20; 0 for k beyond).");
        for (int n = 0; n <= 20; n++) {
            of().asks("choose(" + n + ", 0) = 1", "choose(" + n + ", " + n + ") = 1", "choose(" + n + ", " + (n + 1) + ") = 0",
                    "choose(" + n + ", -1) = 0", "choose(" + n + ", MAX) = 0", "choose(" + n + ", MIN) = 0",
                    "choose(" + n + ", 1) = " + n);
        }
        of().asks("choose(20, 10) = 184756", "choose(20, 9) = 167960", "choose(20, 11) = 167960", "choose(20, 19) = 20");
        says("-2.");
        of().bounds("choose(%, 0)", 0, 20).asks("choose(21, 22) = -2", "choose(-1, 0) = -2", "choose(-1, -1) = -2");
    }

    // ---- searches

    private static void p24() {
        promise(24);
        says("GREATEST (what 0), PACKED (1), FREE (2), CHAIN (3): how many SETS.");
        for (int n = 1; n <= 7; n++) {
            // of all: those with one point; none and each point; the middle level; a set more each time
            Subject.full(n).asks("most(0, 0, 50000) = " + (n == 7 ? -3 : 1 << n - 1), "most(0, 1, 50000) = " + (n + 1),
                    "most(0, 2, 50000) = " + (n == 7 ? -3 : c(n, n / 2)), "most(0, 3, 50000) = " + (n + 1));
        }
        for (int what = 0; what <= 3; what++) {
            of("family 7;").asks("most(0, " + what + ", 1) = 0");
            of("family 7:0123456;").asks("most(0, " + what + ", 1) = 1");
            of("family 7:none;").asks("most(0, " + what + ", 1) = " + (what == 0 ? 0 : 1));
        }
        // as many as there can be: all that have point 0
        of().asks("all(0, 7, 1, 0) = 1", "makes(0, 3, 0) = 64", "most(0, 0, 64) = 64", "most(0, 0, 63) = -3");
        says("-3: it is TOO LONG");
        // 0, then 1; 2 alone is not more
        of("family 3:0,1,2;").stays("most(0, 0, 1) = -3", "most(0, 0, 2) = 1", "most(0, 0, 3) = 1");
        of("family 3:0,1,2;").stays("most(0, 1, 2) = -3", "most(0, 1, 3) = 3", "most(0, 1, 4) = 3");
        of("family 3:0,1,2;").stays("most(0, 2, 2) = -3", "most(0, 2, 3) = 3", "most(0, 3, 1) = -3", "most(0, 3, 2) = 1");
        says("-2 (tries 1 .. 50000).");
        three("family 3:0;").bounds("most(%, 0, 9)", 0, 2).bounds("most(0, %, 9)", 0, 3).bounds("most(0, 0, %)", 1, 50000);
        of("family 3;").asks("most(0, 0, 0) = -2", "most(0, 0, 1) = 0", "most(1, 0, 1) = -2");
    }

    private static void p25() {
        promise(25);
        says("Into a SLOT comes the first such part that SEARCH finds: how many tries it took in all.");
        for (int to = 0; to < 3; to++) {
            of("family 3:0,1,2;").asks("takes(0, 0, 2, " + to + ") = 2", "in(" + to + ") = 3:1", "count(1) = 2");
        }
        // worked out by hand for two points, by the words of SEARCH for three
        int[][] tries = {{2, 3, 3, 3}, {6, 10, 8, 12}};
        String[][] found = {{"2:1,3", "2:0,1,2", "2:1,2", "2:0,1,3"}, {"3:1,3,5,7", "3:0,1,2,4", "3:1,2,4", "3:0,1,3,7"}};
        for (int i = 0; i < 2; i++) {
            for (int what = 0; what <= 3; what++) {
                int due = tries[i][what];
                Subject.full(i + 2).asks("takes(0, " + what + ", 50000, 1) = " + due, "in(1) = " + found[i][what]);
                Subject.full(i + 2).asks("takes(0, " + what + ", " + due + ", 1) = " + due, "in(1) = " + found[i][what]);
                Subject.full(i + 2).asks("takes(0, " + what + ", " + (due - 1) + ", 1) = -3", "in(1) = nothing");
            }
        }
        // of all sets; 50001: more than can be told
        int[][] all = {{1, 2, 1, 2}, {2, 3, 3, 3}, {6, 10, 8, 12}, {18, 37, 39, 63}, {151, 147, 492, 408},
            {14249, 639, 41404, 3196}, {50001, 3029, 50001, 29403}};
        for (int n = 1; n <= 7; n++) {
            for (int what = 0; what <= 3; what++) {
                int due = all[n - 1][what];
                Subject.full(n).asks("takes(0, " + what + ", 50000, 1) = " + (due > 50000 ? -3 : due));
                if (due > 1 && due < 50000) {
                    Subject.full(n).asks("takes(0, " + what + ", " + due + ", 1) = " + due, "count(1) = 3",
                            "takes(0, " + what + ", " + (due - 1) + ", 2) = -3", "in(2) = nothing", "count(1) = 3");
                }
            }
        }
        for (int what = 0; what <= 3; what++) {
            of("family 3;").asks("takes(0, " + what + ", 1, 1) = 0", "in(1) = 3:", "count(1) = 2");
        }
        of("family 3:none;").asks("takes(0, 0, 1, 0) = 0", "in(0) = 3:", "count(1) = 2");
        // no act where the slot stays as it was
        of("family 3:0,01;").asks("takes(0, 0, 9, 0) = 2", "count(1) = 1");
        says("-3: it is TOO LONG (nothing happens)");
        of("family 3:0,1,2;", "family 2:0;").stays("takes(0, 0, 1, 1) = -3", "takes(0, 0, 1, 2) = -3", "takes(0, 1, 2, 0) = -3");
        says("-2.");
        three("family 3:0;").bounds("takes(%, 0, 9, 0)", 0, 2).bounds("takes(0, %, 9, 1)", 0, 3)
                .bounds("takes(0, 0, %, 1)", 1, 50000).bounds("takes(0, 0, 9, %)", 0, 2);
        of("family 3:0;").stays("takes(1, 0, 9, 0) = -2", "takes(0, 4, 9, 1) = -2", "takes(0, 0, 0, 1) = -2",
                "takes(0, 0, 9, 3) = -2");
    }

    private static void p26() {
        promise(26);
        says("COVER: the SET.");
        for (int n = 1; n <= 7; n++) {
            of("family " + n + ";").asks("cover(0) = 0");
            of("family " + n + ":" + allPoints(n) + ";").asks("cover(0) = 1");
            of().asks("all(0, " + n + ", 1, -1) = " + n, "cover(0) = " + whole(n));
            of("family " + n + ":" + (n - 1) + ";").asks("cover(0) = " + (1 << n - 1));
        }
        of("family 4:01,23;").asks("cover(0) = 5");
        says("NONE: the SET none is in the FAMILY");
        of("family 3:none;").asks("cover(0) = -1", "adds(0, 7) = 2", "cover(0) = -1", "cuts(0, 0) = 1", "cover(0) = 1",
                "cuts(0, 7) = 0", "cover(0) = 0");
        says("-2.");
        three("family 3:0;").bounds("cover(%)", 0, 2);
        of().asks("cover(0) = -2");
    }

    private static void p27() {
        promise(27);
        says("COLOURS: SEARCHED for c 1, 2 .. (0 without SETS).");
        of("family 3;").asks("colours(0, 1) = 0");
        of("family 3:012;").asks("colours(0, 1) = 1");
        for (int n = 1; n <= 7; n++) {
            of().asks("all(0, " + n + ", 1, -1) = " + n, "colours(0, 50000) = " + n);
        }
        // all sets but none: as many as points, which are apart; that fewer can't do takes too long from six on
        for (int n = 1; n <= 7; n++) {
            Subject.full(n).asks("cuts(0, 0) = " + whole(n), "colours(0, 50000) = " + (n < 6 ? n : -3));
        }
        says("-3: it is TOO LONG (tries for each c)");
        // for one part one try, for two parts two: not three in all
        of("family 2:0,1;").stays("colours(0, 1) = -3", "colours(0, 2) = 2");
        // 0 in one part: one try; 0, 1 in two: two, then none; in three: three
        of("family 3:0,1,2;").stays("colours(0, 2) = -3", "colours(0, 3) = 3");
        // the one part takes 01 and 12 alone; two parts go back once: six tries
        of("family 5:01,12,03,24;").stays("colours(0, 5) = -3", "colours(0, 6) = 2");
        says("-6 (ahead of -3): the SET none is in the FAMILY");
        of("family 3:none;").asks("colours(0, 1) = -6", "cuts(0, 0) = 0", "colours(0, 1) = 0");
        of("family 3:none,0,1,2;").asks("colours(0, 1) = -6", "cuts(0, 0) = 3", "colours(0, 1) = -3");
        says("-2 (tries 1 .. 50000).");
        three("family 3:0;").bounds("colours(%, 9)", 0, 2).bounds("colours(0, %)", 1, 50000);
        of("family 3;", "family 3:none;").asks("colours(0, 0) = -2", "colours(1, 0) = -2", "colours(1, 50001) = -2",
                "colours(2, 9) = -2");
    }

    private static void p28() {
        promise(28);
        says("In which part (from 0) the k-th SET is by the first way that SEARCH finds in c (1 .. 7) parts.");
        Subject x = of().asks("all(0, 7, 1, -1) = 7");
        for (int k = 0; k < 7; k++) {
            x.asks("colour(0, 7, 7, " + k + ") = " + k, "colour(0, 6, 50000, " + k + ") = -1");
        }
        of("family 3:0,01,012;").asks("colour(0, 1, 3, 2) = 0", "colour(0, 7, 3, 2) = 0");
        of("family 3:0;").bounds("colour(0, %, 9, 0)", 1, 7);
        says("Asked in this order: -2 (k below 0, tries 1 .. 50000); -6: the SET none is in the FAMILY; NONE: not so many SETS; "
                + "-3: it is TOO LONG; NONE: there is no way.");
        three("family 3:0;").bounds("colour(%, 1, 9, 0)", 0, 2).bounds("colour(0, 1, %, 0)", 1, 50000)
                .atLeast("colour(0, 1, 9, %)", 0);
        // with none in it: refused first, then -6 whatever k, tries and c
        of("family 3:none,0,1,2;").stays("colour(0, 2, 1, -1) = -2", "colour(0, 2, 0, 9) = -2", "colour(0, 2, 50001, 9) = -2",
                "colour(0, 0, 1, 9) = -2", "colour(0, 8, 1, 9) = -2", "colour(0, 2, 1, 9) = -6", "colour(0, 2, 1, 0) = -6",
                "colour(0, 2, 50000, 0) = -6");
        // not so many sets, ahead of TOO LONG
        of("family 3:0,1,2;").stays("colour(0, 2, 1, 3) = -1", "colour(0, 2, 1, MAX) = -1", "colour(0, 2, 1, 2) = -3",
                "colour(0, 2, 2, 2) = -1", "colour(0, 3, 2, 2) = -3", "colour(0, 3, 3, 2) = 2", "colour(0, 3, 3, 3) = -1");
        of("family 3;").stays("colour(0, 1, 1, 0) = -1", "colour(0, 1, 1, -1) = -2");
        // TOO LONG ahead of no way: by one try less there is no saying
        of("family 3:0,1,2;").stays("colour(0, 2, 1, 0) = -3", "colour(0, 2, 2, 0) = -1", "colour(0, 1, 1, 0) = -1");
    }

    private static void p29() {
        promise(29);
        says("The fewest steps from a SET of the FAMILY to another one, each to one that is APART (0: they are one).");
        of("family 5:0,1,01,2;").asks("steps(0, 1, 1) = 0", "steps(0, 1, 2) = 1", "steps(0, 1, 3) = 2", "steps(0, 3, 1) = 2",
                "steps(0, 3, 4) = 1");
        of("family 3:none;").asks("steps(0, 0, 0) = 0");
        of("family 3:none,012;").asks("steps(0, 0, 7) = 1", "steps(0, 7, 0) = 1", "steps(0, 7, 7) = 0");
        Subject.full(7).asks("steps(0, 127, 127) = 0", "steps(0, 127, 0) = 1", "steps(0, 127, 1) = 2", "steps(0, 63, 64) = 1",
                "steps(0, 63, 127) = 2");
        // three steps: 01, 23, 14, 025
        of("family 6:01,23,03,14,025;").asks("steps(0, 3, 37) = 3");
        says("NONE: there is no such way");
        of("family 3:0,01;").asks("steps(0, 1, 3) = -1", "steps(0, 3, 1) = -1", "adds(0, 4) = 3", "steps(0, 1, 3) = 2");
        of("family 3:0,1,012;").asks("steps(0, 7, 1) = -1", "steps(0, 7, 7) = 0");
        says("-6: one is not in the FAMILY");
        of("family 3:0;").asks("steps(0, 1, 2) = -6", "steps(0, 2, 1) = -6", "steps(0, 2, 2) = -6", "steps(0, 0, 1) = -6",
                "steps(0, 1, 7) = -6");
        of("family 3;").asks("steps(0, 0, 0) = -6");
        says("-2.");
        three("family 3:0;").bounds("steps(%, 1, 1)", 0, 2).bounds("steps(0, %, 1)", 0, 7).bounds("steps(0, 1, %)", 0, 7);
        of().asks("steps(0, 0, 0) = -2");
    }

    // ---- rounds, sums, what is shattered

    private static void p30() {
        promise(30);
        says("How many SETS are ARCS of a ROUND.");
        for (int n = 1; n <= 7; n++) {
            // of all sets: n of each length but none and all
            int all = n == 1 ? 2 : n * (n - 1) + 2;
            Subject.full(n).asks("arcs(0, 0) = " + all, "arcs(0, " + (ROUNDS[n] - 1) + ") = " + all);
            of("family " + n + ";").asks("arcs(0, 0) = 0");
            of("family " + n + ":none;").asks("arcs(0, 0) = 1");
        }
        // round 0 of seven is 6 0 1 2 3 4 5; the last one is 6 5 4 3 2 1 0
        of("family 7:56,06,012,12,46;").asks("arcs(0, 0) = 4", "arcs(0, 719) = 4");
        of("family 4:01;").asks("arcs(0, 0) = 1", "arcs(0, 1) = 0");
        says("-2.");
        for (int n = 1; n <= 7; n++) {
            three("family " + n + ":0;").bounds("arcs(%, 0)", 0, 2).bounds("arcs(0, %)", 0, ROUNDS[n] - 1);
        }
        of().asks("arcs(0, 0) = -2");
    }

    private static void p31() {
        promise(31);
        says("The POINT at place i of a ROUND of N POINTS.");
        of().asks("around(1, 0, 0) = 0", "around(2, 0, 0) = 1", "around(2, 0, 1) = 0", "around(3, 0, 1) = 0", "around(3, 0, 2) = 1",
                "around(3, 1, 1) = 1", "around(3, 1, 2) = 0", "around(7, 719, 0) = 6", "around(7, 719, 6) = 0",
                "around(7, 0, 6) = 5", "around(7, 120, 1) = 1", "around(7, 119, 1) = 0", "around(7, 1, 6) = 4");
        says("-2 (n 1 .. 7; i 0 .. N less 1).");
        of().bounds("around(%, 0, 0)", 1, 7);
        for (int n = 1; n <= 7; n++) {
            of().bounds("around(" + n + ", 0, %)", 0, n - 1).bounds("around(" + n + ", %, 0)", 0, ROUNDS[n] - 1);
        }
    }

    private static void p32() {
        promise(32);
        says("In how many ROUNDS a SET (it need not be in a FAMILY) of N POINTS is an ARC.");
        for (int n = 1; n <= 7; n++) {
            of().asks("rounds(" + n + ", 0) = " + ROUNDS[n], "rounds(" + n + ", " + whole(n) + ") = " + ROUNDS[n],
                    "rounds(" + n + ", 1) = " + ROUNDS[n], "rounds(" + n + ", " + (whole(n) - 1) + ") = " + ROUNDS[n]);
        }
        of().asks("rounds(4, 3) = 4", "rounds(4, 5) = 4", "rounds(7, 7) = 144", "rounds(7, 96) = 240", "rounds(7, 31) = 240");
        says("-2.");
        of().bounds("rounds(%, 0)", 1, 7);
        for (int n = 1; n <= 7; n++) {
            of().bounds("rounds(" + n + ", %)", 0, whole(n));
        }
    }

    private static void p33() {
        promise(33);
        says("SUM by LEVELS, in lowest terms, what 0: above, 1: below the line.");
        for (int n = 1; n <= 7; n++) {
            of("family " + n + ";").asks("sum(0, 0) = 0", "sum(0, 1) = 1");
            Subject.full(n).asks("sum(0, 0) = " + (n + 1), "sum(0, 1) = 1");
            of("family " + n + ":0;").asks("sum(0, 0) = 1", "sum(0, 1) = " + n);
        }
        of("family 4:0,1;").asks("sum(0, 0) = 1", "sum(0, 1) = 2");
        of("family 4:0,01;").asks("sum(0, 0) = 5", "sum(0, 1) = 12");
        of("family 7:0,01,012;").asks("sum(0, 0) = 23", "sum(0, 1) = 105");
        says("-2.");
        three("family 3:0;").bounds("sum(%, 0)", 0, 2).bounds("sum(0, %)", 0, 1);
        of().asks("sum(0, 0) = -2");
    }

    private static void p34() {
        promise(34);
        says("1 if a SET is SHATTERED, else 0.");
        of("family 7;").asks("shattered(0, 0) = 0", "shattered(0, 127) = 0");
        of("family 7:6;").asks("shattered(0, 0) = 1", "shattered(0, 64) = 0", "adds(0, 0) = 2", "shattered(0, 64) = 1");
        for (int n = 1; n <= 7; n++) {
            Subject.full(n).asks("shattered(0, " + whole(n) + ") = 1", "cuts(0, 0) = " + whole(n),
                    "shattered(0, " + whole(n) + ") = 0", "shattered(0, " + whole(n - 1) + ") = 1");
        }
        says("-2.");
        for (int n = 1; n <= 7; n++) {
            three("family " + n + ";").bounds("shattered(%, 0)", 0, 2).bounds("shattered(0, %)", 0, whole(n));
        }
        of().asks("shattered(0, 0) = -2");
    }

    private static void p35() {
        promise(35);
        says("SHATTERED SETS: how many (what 0), the greatest LEVEL of one (1; NONE without any).");
        for (int n = 1; n <= 7; n++) {
            of("family " + n + ";").asks("shatters(0, 0) = 0", "shatters(0, 1) = -1");
            of("family " + n + ":0;").asks("shatters(0, 0) = 1", "shatters(0, 1) = 0");
            of("family " + n + ":0,none;").asks("shatters(0, 0) = 2", "shatters(0, 1) = 1");
            Subject.full(n).asks("shatters(0, 0) = " + (1 << n), "shatters(0, 1) = " + n, "cuts(0, 0) = " + whole(n),
                    "shatters(0, 0) = " + whole(n), "shatters(0, 1) = " + (n - 1));
        }
        says("-2.");
        three("family 3:0;").bounds("shatters(%, 0)", 0, 2).bounds("shatters(0, %)", 0, 1);
        of().asks("shatters(0, 0) = -2", "shatters(0, 1) = -2");
    }

    private static void p36() {
        promise(36);
        says("FLOWERS: how many (k NONE), the k-th (from 0; by the least SET, then the next, then the third), as 1000000 times the "
                + "least SET, 1000 times the next, and the third.");
        // apart: 0 1 2, 0 1 23, and 2 and 23 have 2 in common
        of("family 4:0,1,2,23;").asks("flower(0, -1) = 2", "flower(0, 0) = 1002004", "flower(0, 1) = 1002012", "flower(0, 2) = -1");
        of("family 4:0,1,2,3;").asks("flower(0, -1) = 4", "flower(0, 0) = 1002004", "flower(0, 1) = 1002008",
                "flower(0, 2) = 1004008", "flower(0, 3) = 2004008");
        of("family 7:none,5,6;").asks("flower(0, -1) = 1", "flower(0, 0) = 32064");
        of("family 7:013456,023456,0123456,123456;").asks("flower(0, -1) = 0");
        // of all sets (5^7 - 3 * 3^7 + 2 * 2^7) / 6: each point in none, in one or in all of the three
        Subject.full(7).asks("flower(0, -1) = 11970", "flower(0, 0) = 1002", "flower(0, 11970) = -1");
        Subject.full(3).asks("flower(0, -1) = 10");
        says("NONE: not so many");
        of("family 3;").asks("flower(0, -1) = 0", "flower(0, 0) = -1");
        of("family 3:0,1;").asks("flower(0, -1) = 0", "flower(0, 0) = -1");
        of("family 3:0,1,2;").asks("flower(0, 0) = 1002004", "flower(0, 1) = -1", "flower(0, MAX) = -1");
        says("-2 (k below NONE, too).");
        three("family 3:0,1,2;").bounds("flower(%, -1)", 0, 2).atLeast("flower(0, %)", -1);
        of().asks("flower(0, -1) = -2", "flower(0, 0) = -2");
    }

    // ---- two families

    private static void p37() {
        promise(37);
        says("Of two FAMILIES (they may be one, of unlike N)");
        of("family 3:none,0,12;").asks("across(0, 0, 0) = 2", "across(0, 0, 1) = 7", "across(0, 0, 2) = 3", "across(0, 0, 3) = 3");
        of("family 1:0;", "family 7:0,06,6;").asks("across(0, 1, 0) = 2", "across(0, 1, 1) = 1", "across(0, 1, 2) = 1",
                "across(0, 1, 3) = 3", "across(1, 0, 0) = 2", "across(1, 0, 1) = 1", "across(1, 0, 2) = 1", "across(1, 0, 3) = 3");
        of("family 6:012345;", "family 7:0123456;").asks("across(0, 1, 0) = 1", "across(0, 1, 2) = 0", "across(0, 1, 3) = 2");
        says("what 0: twos, a SET of each, that MEET, 1: those that are APART, 2: SETS that both have, 3: that one or both have.");
        of("family 3;", "family 4:none,0;").asks("across(0, 1, 0) = 0", "across(0, 1, 1) = 0", "across(0, 1, 2) = 0",
                "across(0, 1, 3) = 2", "across(0, 0, 3) = 0");
        of("family 3:none;", "family 4:none,0;").asks("across(0, 1, 0) = 0", "across(0, 1, 1) = 2", "across(0, 1, 2) = 1",
                "across(0, 1, 3) = 2");
        // of all with all: each point in both, or not
        Subject.full(7).asks("across(0, 0, 1) = 2187", "across(0, 0, 0) = " + (16384 - 2187), "across(0, 0, 2) = 128",
                "across(0, 0, 3) = 128");
        says("-2.");
        three("family 3:0;").bounds("across(%, 0, 0)", 0, 2).bounds("across(0, %, 0)", 0, 2).bounds("across(0, 0, %)", 0, 3);
        of("family 3:0;").asks("across(0, 1, 0) = -2", "across(1, 0, 0) = -2", "across(1, 1, 3) = -2");
    }

    private static void p38() {
        promise(38);
        says("How many SETS of LEVEL k (0 .. N) MEET all SETS of a FAMILY.");
        for (int n = 1; n <= 7; n++) {
            Subject empty = of("family " + n + ";").bounds("answers(0, %)", 0, n);
            Subject none = of("family " + n + ":none;");
            Subject top = of("family " + n + ":" + allPoints(n) + ";");
            for (int k = 0; k <= n; k++) {
                empty.asks("answers(0, " + k + ") = " + c(n, k));
                none.asks("answers(0, " + k + ") = 0");
                top.asks("answers(0, " + k + ") = " + (k == 0 ? 0 : c(n, k)));
            }
        }
        says("-2.");
        three("family 3:0;").bounds("answers(%, 0)", 0, 2).bounds("answers(0, %)", 0, 3);
        of().asks("answers(0, 0) = -2");
    }

    private static void p39() {
        promise(39);
        says("1 if two FAMILIES are LIKE, else 0.");
        for (int n = 2; n <= 7; n++) {
            of("family " + n + ":0;", "family " + n + ":" + (n - 1) + ";").asks("alike(0, 1) = 1", "alike(1, 0) = 1",
                    "alike(0, 0) = 1");
            of("family " + n + ":0;", "family " + n + ":0,1;").asks("alike(0, 1) = 0", "alike(1, 0) = 0");
        }
        of("family 3;", "family 3;").asks("alike(0, 1) = 1");
        of("family 3:none;", "family 3:012;").asks("alike(0, 1) = 0");
        of("family 1:0;", "family 1:none;", "family 1:0;").asks("alike(0, 1) = 0", "alike(0, 2) = 1");
        // unlike N: the points of one are not as many
        of("family 3:0;", "family 4:0;").asks("alike(0, 1) = 0", "alike(1, 0) = 0");
        says("-2.");
        three("family 3:0;").bounds("alike(%, 0)", 0, 2).bounds("alike(0, %)", 0, 2);
        of("family 3:0;").asks("alike(0, 1) = -2", "alike(1, 0) = -2", "alike(1, 1) = -2");
    }

    private static void p40() {
        promise(40);
        says("How many ways there are to name POINTS anew so that the FAMILY stays.");
        int ways = 1;
        for (int n = 1; n <= 7; n++) {
            ways *= n;
            of("family " + n + ";").asks("selves(0) = " + ways);
            of("family " + n + ":none;").asks("selves(0) = " + ways);
            Subject.full(n).asks("selves(0) = " + ways);
            of("family " + n + ":0;").asks("selves(0) = " + ways / n);
        }
        of("family 7:0,01,012,0123,01234,012345;").asks("selves(0) = 1");
        of("family 2:0,1;").asks("selves(0) = 2");
        says("-2.");
        three("family 3:0;").bounds("selves(%)", 0, 2);
        of().asks("selves(0) = -2");
    }

    // ---- one set more or less, acts

    private static void p41() {
        promise(41);
        says("A SET comes: how many there are.");
        of("family 3;").asks("adds(0, 0) = 1", "adds(0, 7) = 2", "in(0) = 3:0,7", "count(1) = 3", "undo() = 2", "in(0) = 3:0",
                "undo() = 1", "in(0) = 3:");
        Subject.full(7).asks("cuts(0, 127) = 127", "adds(0, 127) = 128", "cuts(0, 64) = 127", "adds(0, 64) = 128",
                "cuts(0, 63) = 127", "adds(0, 63) = 128");
        says("-5: it is there");
        of("family 3:none,012;").stays("adds(0, 0) = -5", "adds(0, 7) = -5").asks("adds(0, 1) = 3", "adds(0, 1) = -5");
        says("-2.");
        for (int n = 1; n <= 7; n++) {
            three("family " + n + ";").bounds("adds(%, 0)", 0, 2).bounds("adds(0, %)", 0, whole(n));
        }
        of("family 3:0;").stays("adds(1, 0) = -2", "adds(0, 8) = -2", "adds(0, -1) = -2", "adds(3, 0) = -2");
    }

    private static void p42() {
        promise(42);
        says("What look() would tell of a FAMILY without one of its SETS.");
        int[][] left = {{4, 0, -1, -1, 0, 15, 0}, {4, 2, 2, 3, 14, 6, 0}, {4, 3, 2, 3, 14, 4, 0}, {4, 2, 2, 3, 14, 12, 0},
            {4, 2, 2, 2, 14, 4, 0}, {4, 2, 1, 1, 3, 0, 1}};
        for (int what = 0; what <= 6; what++) {
            // the only one goes: a family of no sets
            of("family 4:01;").stays("without(0, 3, " + what + ") = " + left[0][what]);
            of("family 4:none;").stays("without(0, 0, " + what + ") = " + left[0][what]);
            of("family 4:none,12,123;").asks("without(0, 0, " + what + ") = " + left[1][what]);
            of("family 4:0,12,23,123;").asks("without(0, 1, " + what + ") = " + left[2][what]);
            of("family 4:12,23,123;").asks("without(0, 6, " + what + ") = " + left[3][what]);
            of("family 4:12,23,123;").asks("without(0, 14, " + what + ") = " + left[4][what]);
            of("family 4:0,1,2;").asks("without(0, 4, " + what + ") = " + left[5][what]);
        }
        Subject.full(7).asks("without(0, 127, 1) = 127", "without(0, 127, 3) = 6", "without(0, 0, 2) = 1");
        says("-6: it has it not");
        of("family 4:01;").stays("without(0, 0, 0) = -6", "without(0, 15, 6) = -6", "without(0, 1, 1) = -6");
        of("family 4;").asks("without(0, 0, 0) = -6");
        says("-2.");
        three("family 3:0;").bounds("without(%, 1, 0)", 0, 2).bounds("without(0, %, 0)", 0, 7).bounds("without(0, 1, %)", 0, 6);
        of("family 3:0;").asks("without(0, 2, 7) = -2", "without(1, 0, 0) = -2");
    }

    private static void p43() {
        promise(43);
        says("A SET goes: how many there are.");
        of("family 3:none,012;").asks("cuts(0, 7) = 1", "cuts(0, 0) = 0", "in(0) = 3:", "count(0) = 1", "count(1) = 3",
                "undo() = 2", "in(0) = 3:0", "undo() = 1", "in(0) = 3:0,7");
        Subject.full(7).asks("cuts(0, 0) = 127", "cuts(0, 63) = 126", "cuts(0, 64) = 125", "cuts(0, 127) = 124", "set(0, 0) = 1",
                "set(0, 123) = 126", "set(0, 124) = -1");
        says("-6: it is not there");
        of("family 3:0;").stays("cuts(0, 0) = -6", "cuts(0, 7) = -6", "cuts(0, 2) = -6").asks("cuts(0, 1) = 0", "cuts(0, 1) = -6");
        says("-2.");
        for (int n = 1; n <= 7; n++) {
            three("family " + n + ":0;").bounds("cuts(%, 1)", 0, 2).bounds("cuts(0, %)", 0, whole(n));
        }
        of("family 3:0;").stays("cuts(1, 0) = -2", "cuts(0, 8) = -2", "cuts(0, -1) = -2", "cuts(3, 0) = -2");
    }

    private static void p44() {
        promise(44);
        says("A SLOT has nothing any more: 1 if it had a FAMILY, else 0.");
        for (int slot = 0; slot < 3; slot++) {
            String in = "in(" + slot + ") = ";
            three("family 3:0;").asks("drops(" + slot + ") = 1", in + "nothing", "count(0) = " + (7 - (1 << slot)), "count(1) = 4",
                    "drops(" + slot + ") = 0", "count(1) = 4", "undo() = 3", in + "3:1");
        }
        of("family 3;").asks("drops(0) = 1", "in(0) = nothing");
        of().stays("drops(0) = 0", "drops(1) = 0", "drops(2) = 0");
        says("-2: no such SLOT.");
        three("family 3:0;").stays("drops(3) = -2", "drops(-1) = -2", "drops(MIN) = -2", "drops(MAX) = -2");
    }

    private static void p45() {
        promise(45);
        says("The latest act is undone: how many can be.");
        of("family 3:0;").tells(0, "family 4:1;", 1).asks("undo() = 1", "in(0) = 3:1", "undo() = 0", "in(0) = nothing");
        // ten and no more, though eleven came
        Subject x = of();
        for (int i = 1; i <= 11; i++) {
            x.ask("row(0, 7, 2, " + i + ")");
        }
        for (int i = 9; i >= 0; i--) {
            x.asks("undo() = " + i, "look(0, 1) = " + (i + 1));
        }
        x.asks("undo() = -1", "look(0, 1) = 1", "count(0) = 1");
        // what is no act is passed over: the tape, OUT and the fault stay
        of("family 3:0;").tape("family 4").asks("tell(0) = 11", "undo() = 0", "count(2) = 8", "out() = family 3:0;");
        of("family 3:0;").faulty("family 0;", 2, 7).asks("undo() = 0", "fault(0) = 2", "fault(1) = 7");
        says("NONE: none.");
        of().stays("undo() = -1");
        of("family 3:0;").asks("undo() = 0", "undo() = -1", "undo() = -1", "count(1) = 0", "in(0) = nothing");
    }

    // ---- OUT

    private static void p46() {
        promise(46);
        says("The FAMILY is TOLD in OUT as a TEXT (a blank behind family alone; POINTS of a SET rising): how many bytes.");
        of("family 7;").asks("tell(0) = 9", "out() = family 7;");
        of("family 1:none;").asks("tell(0) = 14", "out() = family 1:none;");
        of("family 1:none,0;").asks("tell(0) = 16", "out() = family 1:none,0;");
        of("family 7 : 6543210 , 20;").asks("tell(0) = 20", "out() = family 7:02,0123456;");
        Subject.full(7).asks("tell(0) = 589", "octet(588) = 59", "octet(589) = -1", "octet(13) = 44", "octet(14) = 48");
        says("-2.");
        three("family 3:0;").bounds("tell(%)", 0, 2);
        of().asks("tell(0) = -2", "count(3) = 0");
    }

    private static void p47() {
        promise(47);
        says("Byte i of OUT (what was told in it last by a call that was not refused, whatever came since; empty ahead of any).");
        of("family 3:0;").asks("octet(0) = -1", "octet(-1) = -1", "tell(0) = 11", "octet(0) = 102", "octet(6) = 32",
                "octet(10) = 59");
        of("family 3:0;", "family 3:none,012;").asks("tell(1) = 18", "tell(0) = 11", "out() = family 3:0;", "tell(2) = -2",
                "tell(3) = -2", "out() = family 3:0;");
        of("family 3:0;").asks("tell(0) = 11", "adds(0, 2) = 2", "drops(0) = 1", "undo() = 2").tape("family 3:1;")
                .asks("told(0) = 1", "out() = family 3:0;", "tell(0) = 11", "out() = family 3:1;");
        says("NONE: there is none such.");
        of("family 3:0;").asks("tell(0) = 11", "octet(11) = -1", "octet(-1) = -1", "octet(MIN) = -1", "octet(MAX) = -1",
                "octet(10) = 59");
        // a shorter one behind a longer one
        of("family 3:none,0,1;", "family 3;").asks("tell(0) = 18", "octet(9) = 110", "tell(1) = 9", "octet(8) = 59",
                "octet(9) = -1", "octet(17) = -1");
        of().asks("octet(0) = -1");
    }

    // ---- the rest

    private static void p48() {
        promise(48);
        says("How many SETS have just k (0 .. N) POINTS in common with a SET (it need not be in the FAMILY).");
        for (int n = 1; n <= 7; n++) {
            Subject x = Subject.full(n).bounds("common(0, 0, %)", 0, n);
            for (int k = 0; k <= n; k++) {
                x.asks("common(0, " + whole(n) + ", " + k + ") = " + c(n, k), "common(0, 0, " + k + ") = " + (k == 0 ? 1 << n : 0),
                        "common(0, 1, " + k + ") = " + (k > 1 ? 0 : 1 << n - 1));
            }
            of("family " + n + ";").asks("common(0, 0, 0) = 0", "common(0, " + whole(n) + ", " + n + ") = 0");
        }
        of("family 4:01,12;").asks("common(0, 1, 1) = 1", "common(0, 1, 0) = 1", "common(0, 15, 2) = 2", "common(0, 8, 0) = 2");
        says("-2.");
        three("family 3:0;").bounds("common(%, 1, 0)", 0, 2).bounds("common(0, %, 0)", 0, 7).bounds("common(0, 1, %)", 0, 3);
        of().asks("common(0, 0, 0) = -2");
    }

    private static void p49() {
        promise(49);
        says("The k-th SET (from 0) that is not in the FAMILY.");
        of("family 3:none,2;").asks("lacks(0, 0) = 1", "lacks(0, 2) = 3", "lacks(0, 3) = 5", "lacks(0, 5) = 7", "lacks(0, 6) = -1");
        for (int n = 1; n <= 7; n++) {
            of("family " + n + ";").asks("lacks(0, 0) = 0", "lacks(0, " + whole(n) + ") = " + whole(n),
                    "lacks(0, " + (1 << n) + ") = -1");
        }
        says("NONE: not so many");
        for (int n = 1; n <= 7; n++) {
            Subject.full(n).asks("lacks(0, 0) = -1", "cuts(0, " + whole(n) + ") = " + whole(n), "lacks(0, 0) = " + whole(n),
                    "lacks(0, 1) = -1", "lacks(0, MAX) = -1");
        }
        says("-2 (k below 0, too).");
        three("family 3:0;").bounds("lacks(%, 0)", 0, 2).atLeast("lacks(0, %)", 0);
        of().asks("lacks(0, 0) = -2", "lacks(0, -1) = -2");
    }

    private static void p50() {
        promise(50);
        says("By how many twos i, j a SHIFT would change something.");
        for (int n = 1; n <= 7; n++) {
            of("family " + n + ";").asks("moved(0) = 0");
            Subject.full(n).asks("moved(0) = 0");
            of("family " + n + ":0;").asks("moved(0) = 0");
            of("family " + n + ":" + (n - 1) + ";").asks("moved(0) = " + (n - 1));
            Subject ends = of("family " + n + ";");
            for (int p = 0; p < n; p++) {
                ends.ask("adds(0, " + (whole(n) ^ whole(p)) + ")");
            }
            // all points from p on, for each p: every shift changes one of them
            ends.stays("moved(0) = " + c(n, 2));
        }
        says("-2.");
        three("family 3:0;").bounds("moved(%)", 0, 2);
        of().asks("moved(0) = -2");
    }

    private static void p51() {
        promise(51);
        says("How many SETS have both of two POINTS (they may be one; what 0), just one of them (1).");
        of("family 7:0,06,016,6,2,none;").asks("together(0, 0, 6, 0) = 2", "together(0, 6, 0, 0) = 2", "together(0, 0, 6, 1) = 2",
                "together(0, 0, 0, 0) = 3", "together(0, 0, 0, 1) = 0", "together(0, 6, 6, 0) = 3", "together(0, 6, 6, 1) = 0",
                "together(0, 3, 5, 0) = 0", "together(0, 3, 5, 1) = 0");
        for (int n = 2; n <= 7; n++) {
            Subject.full(n).asks("together(0, 0, " + (n - 1) + ", 0) = " + (1 << n - 2),
                    "together(0, 0, " + (n - 1) + ", 1) = " + (1 << n - 1));
        }
        of("family 1:none,0;").asks("together(0, 0, 0, 0) = 1", "together(0, 0, 0, 1) = 0");
        of("family 3;").asks("together(0, 0, 2, 0) = 0", "together(0, 0, 2, 1) = 0");
        says("-2.");
        three("family 3:0;").bounds("together(%, 0, 0, 0)", 0, 2).bounds("together(0, %, 0, 0)", 0, 2)
                .bounds("together(0, 0, %, 0)", 0, 2).bounds("together(0, 0, 0, %)", 0, 1);
        of().asks("together(0, 0, 0, 0) = -2");
    }

    private static void p52() {
        promise(52);
        says("POINTS that half of the SETS or more have, as bits.");
        // one, two and three of four; one, two and three of five
        of("family 4:0,01,012,3;").asks("half(0) = 3");
        of("family 4:0,01,2,3;").asks("half(0) = 1");
        of("family 4:0,1,2,3;").asks("half(0) = 0");
        of("family 4:0,01,2,3,none;").asks("half(0) = 0");
        of("family 4:0,01,02,3,none;").asks("half(0) = 1");
        of("family 7:6;").asks("half(0) = 64");
        of("family 7:6,none;").asks("half(0) = 64");
        of("family 7:6,none,0;").asks("half(0) = 0");
        for (int n = 1; n <= 7; n++) {
            Subject.full(n).asks("half(0) = " + whole(n), "cuts(0, 1) = " + whole(n), "half(0) = " + (whole(n) - 1));
            // of no sets half is none, and each point is in as many
            of("family " + n + ";").asks("half(0) = " + whole(n));
            of("family " + n + ":none;").asks("half(0) = 0");
        }
        says("-2.");
        three("family 3:0;").bounds("half(%)", 0, 2);
        of().asks("half(0) = -2");
    }

    private static void p53() {
        promise(53);
        says("The next SET by numbers of as many POINTS of all there are of N (whether they are in the FAMILY or not).");
        of("family 4;").asks("next(0, 1) = 2", "next(0, 4) = 8", "next(0, 3) = 5", "next(0, 6) = 9", "next(0, 10) = 12",
                "next(0, 7) = 11", "next(0, 13) = 14");
        of("family 4:01,02;").asks("next(0, 3) = 5", "next(0, 5) = 6");
        of("family 7;").asks("next(0, 32) = 64", "next(0, 56) = 67", "next(0, 63) = 95", "next(0, 125) = 126");
        says("NONE: there is none");
        for (int n = 1; n <= 7; n++) {
            Subject x = of("family " + n + ";");
            for (int k = 0; k <= n; k++) {
                x.asks("next(0, " + (whole(k) << n - k) + ") = -1");
            }
        }
        says("-2.");
        for (int n = 1; n <= 7; n++) {
            three("family " + n + ";").bounds("next(%, 0)", 0, 2).bounds("next(0, %)", 0, whole(n));
        }
        of().asks("next(0, 0) = -2");
    }

    private static void p54() {
        promise(54);
        says("Twos of unlike SETS that are APART: how many (k NONE), the k-th (from 0; by the lesser, then the other one), as "
                + "1000 times the lesser and the other.");
        of("family 4:0,1,23,3;").asks("apart(0, -1) = 5", "apart(0, 0) = 1002", "apart(0, 1) = 1008", "apart(0, 2) = 1012",
                "apart(0, 3) = 2008", "apart(0, 4) = 2012", "apart(0, 5) = -1");
        of("family 3:none;").asks("apart(0, -1) = 0", "apart(0, 0) = -1");
        of("family 3:none,012;").asks("apart(0, -1) = 1", "apart(0, 0) = 7", "apart(0, 1) = -1");
        // of all of seven the first is none and 0, the last 012345 and 6
        Subject.full(7).asks("apart(0, -1) = 1093", "apart(0, 0) = 1", "apart(0, 126) = 127", "apart(0, 127) = 1002",
                "apart(0, 1092) = 63064", "apart(0, 1093) = -1");
        says("NONE: not so many");
        of("family 3;").asks("apart(0, -1) = 0", "apart(0, 0) = -1");
        of("family 3:0,1;").asks("apart(0, 0) = 1002", "apart(0, 1) = -1", "apart(0, MAX) = -1");
        says("-2 (k below NONE, too).");
        three("family 3:0,1;").bounds("apart(%, -1)", 0, 2).atLeast("apart(0, %)", -1);
        of().asks("apart(0, -1) = -2", "apart(0, 0) = -2");
    }

    private static void p55() {
        promise(55);
        says("SETS (of all there are of N) that MEET all of a FAMILY: how many (k NONE), the k-th (from 0).");
        for (int n = 1; n <= 7; n++) {
            of("family " + n + ";").asks("covers(0, -1) = " + (1 << n), "covers(0, 0) = 0",
                    "covers(0, " + whole(n) + ") = " + whole(n), "covers(0, " + (1 << n) + ") = -1");
            of("family " + n + ":" + (n - 1) + ";").asks("covers(0, -1) = " + (1 << n - 1), "covers(0, 0) = " + (1 << n - 1),
                    "covers(0, " + whole(n - 1) + ") = " + whole(n), "covers(0, " + (1 << n - 1) + ") = -1");
            of("family " + n + ":" + allPoints(n) + ";").asks("covers(0, -1) = " + whole(n), "covers(0, 0) = 1");
        }
        says("NONE: not so many");
        of("family 3:none;").asks("covers(0, -1) = 0", "covers(0, 0) = -1", "covers(0, MAX) = -1");
        of("family 3:0,1,2;").asks("covers(0, -1) = 1", "covers(0, 0) = 7", "covers(0, 1) = -1");
        says("-2 (k below NONE, too).");
        three("family 3:0,1;").bounds("covers(%, -1)", 0, 2).atLeast("covers(0, %)", -1);
        of().asks("covers(0, -1) = -2", "covers(0, 0) = -2");
    }

    private static void p56() {
        promise(56);
        says("The most SETS of the FAMILY, each within the next one and unlike it, of which a SET of it is the last.");
        for (int n = 1; n <= 7; n++) {
            Subject.full(n).asks("height(0, 0) = 1", "height(0, 1) = 2", "height(0, " + whole(n) + ") = " + (n + 1));
            of("family " + n + ":" + allPoints(n) + ";").asks("height(0, " + whole(n) + ") = 1");
        }
        of("family 4:0,1,01,3,0123;").asks("height(0, 1) = 1", "height(0, 3) = 2", "height(0, 8) = 1", "height(0, 15) = 3");
        says("-6: it is not in it");
        of("family 3:0;").asks("height(0, 0) = -6", "height(0, 7) = -6", "height(0, 1) = 1");
        of("family 3;").asks("height(0, 0) = -6");
        says("-2.");
        three("family 3:0;").bounds("height(%, 1)", 0, 2).bounds("height(0, %)", 0, 7);
        of().asks("height(0, 0) = -2");
    }

    private static void p57() {
        promise(57);
        says("What SETS of a FAMILY have in common with a SET comes into a SLOT: how many SETS.");
        for (int to = 0; to < 3; to++) {
            of("family 3:01,12;").asks("trace(0, 3, " + to + ") = 2", "in(" + to + ") = 3:2,3", "count(1) = 2");
        }
        of("family 3:01,12,2;").asks("trace(0, 0, 1) = 1", "in(1) = 3:0", "trace(0, 7, 1) = 3", "in(1) = 3:3,4,6",
                "trace(0, 2, 1) = 2", "in(1) = 3:0,2", "trace(0, 7, 0) = 3", "count(1) = 4");
        of("family 3;").asks("trace(0, 7, 1) = 0", "in(1) = 3:", "trace(0, 0, 2) = 0", "in(2) = 3:");
        for (int n = 1; n <= 7; n++) {
            Subject.full(n).asks("trace(0, " + whole(n) + ", 1) = " + (1 << n), "trace(0, 1, 1) = 2", "trace(0, 0, 1) = 1",
                    "look(1, 0) = " + n);
        }
        says("-2.");
        three("family 3:0;").bounds("trace(%, 7, 0)", 0, 2).bounds("trace(0, %, 1)", 0, 7).bounds("trace(0, 7, %)", 0, 2);
        of("family 3:0;").stays("trace(1, 0, 0) = -2", "trace(0, 8, 1) = -2", "trace(0, -1, 1) = -2", "trace(0, 0, 3) = -2");
    }

    private static void p58() {
        promise(58);
        says("Of two FAMILIES (they may be one) of one N come into a SLOT, what 0: SETS of one or both, 1: of both, 2: of the "
                + "first alone, 3: what a SET of each has together: how many.");
        String[] want = {"4:0,1,6,8", "4:1", "4:0,6", "4:1,7,8,9,14"};
        String[] itself = {"4:0,1,6", "4:0,1,6", "4:", "4:0,1,6,7"};
        for (int what = 0; what <= 3; what++) {
            for (int to = 0; to < 3; to++) {
                int size = want[what].split(",").length;
                of("family 4:none,0,12;", "family 4:0,3;").asks("joint(0, 1, " + what + ", " + to + ") = " + size,
                        "in(" + to + ") = " + want[what]);
                int own = itself[what].endsWith(":") ? 0 : itself[what].split(",").length;
                of("family 4:none,0,12;").asks("joint(0, 0, " + what + ", " + to + ") = " + own,
                        "in(" + to + ") = " + itself[what]);
            }
        }
        of("family 3;", "family 3:none,0;").asks("joint(0, 1, 0, 2) = 2", "joint(0, 1, 1, 2) = 0", "in(2) = 3:",
                "joint(0, 1, 2, 2) = 0", "joint(1, 0, 2, 2) = 2", "joint(0, 1, 3, 2) = 0", "joint(1, 0, 3, 2) = 0",
                "joint(0, 0, 3, 2) = 0");
        of("family 7:none,0;", "family 7:012345;", "family 7:6;").asks("joint(0, 1, 3, 1) = 1", "in(1) = 7:63",
                "joint(0, 2, 3, 1) = 2", "in(1) = 7:64,65", "joint(2, 0, 3, 2) = 2", "in(2) = 7:64,65");
        Subject.full(7).asks("joint(0, 0, 0, 1) = 128", "joint(0, 0, 1, 1) = 128", "joint(0, 0, 2, 1) = 0",
                "joint(0, 0, 3, 1) = 128");
        says("-6: they have not one N");
        of("family 3:0;", "family 4:0;").stays("joint(0, 1, 0, 2) = -6", "joint(1, 0, 3, 2) = -6", "joint(0, 1, 1, 0) = -6")
                .asks("joint(1, 1, 0, 2) = 1", "joint(0, 0, 0, 2) = 1");
        of("family 3;", "family 4;").stays("joint(0, 1, 0, 2) = -6");
        says("-2.");
        three("family 3:0;").bounds("joint(%, 0, 0, 0)", 0, 2).bounds("joint(0, %, 0, 0)", 0, 2).bounds("joint(0, 0, %, 1)", 0, 3)
                .bounds("joint(0, 0, 0, %)", 0, 2);
        of("family 3:0;", "family 4:0;").stays("joint(0, 2, 0, 1) = -2", "joint(2, 0, 0, 1) = -2", "joint(0, 1, 4, 2) = -2",
                "joint(0, 1, -1, 2) = -2", "joint(0, 1, 0, 3) = -2", "joint(0, 1, 0, -1) = -2", "joint(0, 3, 0, 2) = -2");
    }

    private static void p59() {
        promise(59);
        says("The how-manieth (from 0) by numbers a SET is of those of its LEVEL (of whatever N).");
        for (int k = 0; k <= 7; k++) {
            of().asks("rank(" + whole(k) + ") = 0", "rank(" + (whole(k) << 7 - k) + ") = " + (c(7, k) - 1));
        }
        of().asks("rank(1) = 0", "rank(2) = 1", "rank(64) = 6", "rank(32) = 5", "rank(5) = 1", "rank(6) = 2", "rank(9) = 3");
        // no family is needed, and none changes it
        of("family 1:0;").asks("rank(96) = 20");
        says("-2 (no number 0 .. 127).");
        of().bounds("rank(%)", 0, 127);
    }

    private static void p60() {
        promise(60);
        says("The SET that is i-th (from 0) by numbers of LEVEL k (0 .. 7) of 7 POINTS.");
        for (int k = 0; k <= 7; k++) {
            of().asks("ranked(" + k + ", 0) = " + whole(k), "ranked(" + k + ", " + (c(7, k) - 1) + ") = " + (whole(k) << 7 - k));
        }
        of().asks("ranked(2, 1) = 5", "ranked(2, 2) = 6", "ranked(2, 3) = 9", "ranked(1, 5) = 32");
        of().bounds("ranked(%, 0)", 0, 7);
        says("NONE: not so many");
        for (int k = 0; k <= 7; k++) {
            of().asks("ranked(" + k + ", " + c(7, k) + ") = -1", "ranked(" + k + ", MAX) = -1");
        }
        says("-2 (i below 0, too).");
        of().atLeast("ranked(3, %)", 0).asks("ranked(8, -1) = -2", "ranked(-1, 0) = -2");
    }

    public static void main(String[] args) {
        Runnable[] tests = {
            PromiseEdgesTest::p1, PromiseEdgesTest::p2, PromiseEdgesTest::p3, PromiseEdgesTest::p4, PromiseEdgesTest::p5,
            PromiseEdgesTest::p6, PromiseEdgesTest::p7, PromiseEdgesTest::p8, PromiseEdgesTest::p9, PromiseEdgesTest::p10,
            PromiseEdgesTest::p11, PromiseEdgesTest::p12, PromiseEdgesTest::p13, PromiseEdgesTest::p14, PromiseEdgesTest::p15,
            PromiseEdgesTest::p16, PromiseEdgesTest::p17, PromiseEdgesTest::p18, PromiseEdgesTest::p19, PromiseEdgesTest::p20,
            PromiseEdgesTest::p21, PromiseEdgesTest::p22, PromiseEdgesTest::p23, PromiseEdgesTest::p24, PromiseEdgesTest::p25,
            PromiseEdgesTest::p26, PromiseEdgesTest::p27, PromiseEdgesTest::p28, PromiseEdgesTest::p29, PromiseEdgesTest::p30,
            PromiseEdgesTest::p31, PromiseEdgesTest::p32, PromiseEdgesTest::p33, PromiseEdgesTest::p34, PromiseEdgesTest::p35,
            PromiseEdgesTest::p36, PromiseEdgesTest::p37, PromiseEdgesTest::p38, PromiseEdgesTest::p39, PromiseEdgesTest::p40,
            PromiseEdgesTest::p41, PromiseEdgesTest::p42, PromiseEdgesTest::p43, PromiseEdgesTest::p44, PromiseEdgesTest::p45,
            PromiseEdgesTest::p46, PromiseEdgesTest::p47, PromiseEdgesTest::p48, PromiseEdgesTest::p49, PromiseEdgesTest::p50,
            PromiseEdgesTest::p51, PromiseEdgesTest::p52, PromiseEdgesTest::p53, PromiseEdgesTest::p54, PromiseEdgesTest::p55,
            PromiseEdgesTest::p56, PromiseEdgesTest::p57, PromiseEdgesTest::p58, PromiseEdgesTest::p59, PromiseEdgesTest::p60};
        List<String> titles = new ArrayList<>();
        for (int i = 0; i < tests.length; i++) {
            tests[i].run();
            titles.add("Promise " + (i + 1));
        }
        Sentences.finish(titles);
    }
}
