import java.util.List;

/** The document's terms: each sentence that names an edge, at it and on both sides of it. */
public final class TermsEdgesTest {
    private static final String ALL_OF_THREE = "family 3:none,0,1,2,01,02,12,012;";

    /** Every call that needs a family, with S for the slot whose family is asked for. */
    private static final String[] NEED_A_FAMILY = {
        "look(S, 0)", "set(S, 0)", "has(S, 0)", "is(S, 0)", "degree(S, 0)", "order(S, 0)", "level(S, 0)",
        "makes(S, 0, 1)", "part(S, 0, 0, 1)", "shift(S, 0, 1)", "would(S, 0, 1)", "settles(S)", "most(S, 0, 9)",
        "takes(S, 0, 9, 1)", "cover(S)", "colours(S, 9)", "colour(S, 3, 9, 0)", "steps(S, 1, 2)", "arcs(S, 0)",
        "sum(S, 0)", "shattered(S, 0)", "shatters(S, 0)", "flower(S, -1)", "across(S, 1, 0)", "across(1, S, 0)",
        "answers(S, 0)", "alike(S, 1)", "alike(1, S)", "selves(S)", "adds(S, 4)", "without(S, 1, 0)",
        "cuts(S, 1)", "tell(S)", "common(S, 0, 0)", "lacks(S, 0)", "moved(S)", "together(S, 0, 1, 0)", "half(S)",
        "next(S, 1)", "apart(S, -1)", "covers(S, -1)", "height(S, 1)", "trace(S, 0, 1)", "joint(S, 1, 0, 2)",
        "joint(1, S, 0, 2)"};

    /** Every call by which something comes into a slot, which may have had nothing. */
    private static final String[] COME_INTO = {
        "told(S)", "row(S, 3, 1, 1)", "all(S, 3, 1, -1)", "drops(S)", "makes(1, 0, S)", "part(1, 0, 0, S)",
        "takes(1, 0, 9, S)", "trace(1, 0, S)", "joint(1, 1, 0, S)"};

    private static Subject of(String... texts) {
        return Subject.of(texts);
    }

    private static void says(String words) {
        Sentences.says(words);
    }

    /** What makes() makes of a family. */
    private static void makes(String text, int what, String want) {
        int size = want.endsWith(":") ? 0 : want.split(",").length;
        of(text).asks("makes(0, " + what + ", 1) = " + size, "in(1) = " + want);
    }

    private static String allPoints(int n) {
        return "0123456".substring(0, n);
    }

    // ---- I

    private static void points() {
        says("POINTS 0 .. N less 1 (N 1 .. 7)");
        for (int n = 1; n <= 7; n++) {
            of("family " + n + ";").asks("look(0, 0) = " + n).bounds("degree(0, %)", 0, n - 1);
            of().tells(0, "family " + n + ":" + (n - 1) + ";", 1);
            of().tells(0, "family " + n + ":" + n + ";", -4);
        }
        of().tells(0, "family 0;", -4).tells(0, "family 8;", -4).asks("in(0) = nothing");
        says("a SET is a number: bit p: POINT p is in it (0 .. 2 to the N less 1)");
        for (int n = 1; n <= 7; n++) {
            of("family " + n + ";").bounds("has(0, %)", 0, (1 << n) - 1);
            of("family " + n + ":" + allPoints(n) + ",none;").asks("in(0) = " + n + ":0," + ((1 << n) - 1));
            for (int p = 0; p < n; p++) {
                of("family " + n + ":" + p + ";").asks("in(0) = " + n + ":" + (1 << p));
            }
        }
        says("FAMILY: some SETS, each once; its order is by numbers");
        of("family 4:3,2,none,01,0123;").asks("in(0) = 4:0,3,4,8,15");
        says("Two SETS MEET, if they have a POINT in common (none meets nobody), else they are APART");
        of("family 4:01,12,23;").asks("apart(0, -1) = 1", "apart(0, 0) = 3012", "across(0, 0, 0) = 7");
        of("family 4:none,0123;").asks("apart(0, -1) = 1", "is(0, 0) = 0", "across(0, 0, 0) = 1", "across(0, 0, 1) = 3");
        of("family 4:none;").asks("is(0, 0) = 0", "across(0, 0, 0) = 0", "across(0, 0, 1) = 1", "apart(0, -1) = 0");
        says("LEVEL of a SET: how many POINTS are in it");
        of("family 7:none,6,01234,0123456;").asks("level(0, 0) = 1", "level(0, 1) = 1", "level(0, 2) = 0",
                "level(0, 5) = 1", "level(0, 6) = 0", "level(0, 7) = 1");
    }

    private static void texts() {
        says("family N [: SET {, SET}] ;");
        of().tells(0, "family 3;", 0).tells(0, "family 3:0;", 1).tells(0, "family 3:0,1;", 2)
                .tells(0, "family 3:0,1,2;", 3);
        of().faulty("family 3", 1, 8).faulty("family 3:;", 1, 9).faulty("family 3,0;", 1, 8).faulty("family 3:0", 1, 10)
                .faulty("family 3:0,;", 1, 11).faulty("family 3:,0;", 1, 9).faulty("family 3:0:1;", 1, 10)
                .faulty("family 3;;", 1, 9).faulty("family;", 1, 6).faulty("3;", 1, 0).faulty(";", 1, 0);
        says("none | DIGITS (one TOKEN: POINTS, each once)");
        of().tells(0, "family 7:none;", 1).asks("in(0) = 7:0").tells(0, "family 7:6543210;", 1).asks("in(0) = 7:127");
        of().faulty("family 3:0 1;", 1, 11).faulty("family 3:none1;", 1, 13).faulty("family 3:1none;", 1, 10)
                .faulty("family 3:none none;", 1, 14);
        says("blanks (32, 10) aside");
        of().tells(0, "\n family \n 3\n: 01 ,\n2 ; \n", 2).asks("in(0) = 3:3,4");
        of().tells(0, "family3:01,2;", 2).asks("in(0) = 3:3,4");
        int[] others = {0, 9, 11, 12, 13, 31, 33, 127, 128, 160, 255};
        for (int sign : others) {
            of().faulty("family" + (char) sign + "3;", 1, 6).faulty("family 3;" + (char) sign, 1, 9)
                    .faulty((char) sign + "family 3;", 1, 0);
        }
        says("the longest: words (a .. z), digits, else single bytes");
        of().faulty("fami ly 3;", 1, 0).faulty("familya 3;", 1, 0).faulty("zfamily 3;", 1, 0).faulty("FAMILY 3;", 1, 0)
                .faulty("family 3:no ne;", 1, 9).faulty("family 3:nonea;", 1, 9).faulty("family 3:nonez;", 1, 9);
        // as long as the word that can stand there, and one letter is another
        of().faulty("gamily 3;", 1, 0).faulty("famiky 3;", 1, 0).faulty("familz 3;", 1, 0).faulty("family 3:mone;", 1, 9)
                .faulty("family 3:nome;", 1, 9).faulty("family 3:nonf;", 1, 9).faulty("family 3:0123;", 3, 12);
        // a sign just outside of a .. z or 0 .. 9 is a token of its own, behind one that can stand there
        of().faulty("family`3;", 1, 6).faulty("family{3;", 1, 6).faulty("family@3;", 1, 6).faulty("family[3;", 1, 6)
                .faulty("family 3/;", 1, 8).faulty("family 3::0;", 1, 9).faulty("family 3:01/;", 1, 11)
                .faulty("family 3:none{;", 1, 13).faulty("family 3:none`;", 1, 13);
        // digits are one token, however long
        of().faulty("family 3 3;", 1, 9).faulty("family 33;", 2, 7).faulty("family 7:0123456 0;", 1, 17);
    }

    private static void faults() {
        says("of several the one whose first byte (a TOKEN's; the end's) is least");
        of().faulty("famil 9:44,44", 1, 0).faulty("family 9:44,44", 2, 7).faulty("family 3:44,44", 3, 9)
                .faulty("family 3:4,?", 3, 9).faulty("family 3:?,4", 1, 9).faulty("family 3:0,0,3;", 4, 11)
                .faulty("family 3:0,3,0;", 3, 11).faulty("family 3:0,0", 4, 11).faulty("family 3:0,1", 1, 12)
                .faulty("family 3:0,00;", 3, 12).faulty("family 3:013 ", 3, 11).faulty("family 3:01 ", 1, 12);
        says("of one byte the least number");
        // what can't stand there is fault 1, even if it would be 2 or 3 elsewhere
        of().faulty("family 3 8;", 1, 9).faulty("family 3:0 3;", 1, 11).faulty("family 3:0;3", 1, 11)
                .faulty("9;", 1, 0).faulty("family 3:none 0;", 1, 14);
        says("1 a TOKEN that is none, or can't stand there");
        String[] tokens = {"family", "none", "x", ";", ":", ",", "?", "A"};
        for (String token : tokens) {
            if (!token.equals("family")) {
                of().faulty(token + " 3;", 1, 0);
            }
            of().faulty("family " + token, 1, 7).faulty("family 3; " + token, 1, 10);
            if (!token.equals(":") && !token.equals(";")) {
                of().faulty("family 3 " + token, 1, 9);
            }
            if (!token.equals("none")) {
                of().faulty("family 3:" + token, 1, 9);
            }
            if (!token.equals(",") && !token.equals(";")) {
                of().faulty("family 3:0" + token, 1, 10);
            }
        }
        of().faulty("", 1, 0).faulty(" ", 1, 1).faulty("family", 1, 6).faulty("family 3:", 1, 9).faulty("family 3:0,", 1, 11);
        says("2 N out of its bounds");
        of().faulty("family 0;", 2, 7).faulty("family 8;", 2, 7).faulty("family 9;", 2, 7).faulty("family 10;", 2, 7)
                .faulty("family 17;", 2, 7).faulty("family 70;", 2, 7).faulty("family 257;", 2, 7)
                .faulty("family 65537;", 2, 7).faulty("family 4294967297;", 2, 7)
                .faulty("family 18446744073709551617;", 2, 7).faulty("  family\n\n00;", 2, 10);
        of().faulty("family " + "9".repeat(793), 2, 7).faulty("family " + "0".repeat(793), 2, 7);
        of().tells(0, "family 1;", 0).tells(0, "family 7;", 0);
        // the number counts, not how it is written
        of().tells(0, "family 01;", 0).asks("look(0, 0) = 1").tells(0, "family 007:6;", 1).asks("in(0) = 7:64")
                .faulty("family 08;", 2, 7).faulty("family 010;", 2, 7);
        says("3 a digit that is not below N, or that stood ahead of it in this SET (at it)");
        for (int n = 1; n <= 7; n++) {
            String points = allPoints(n);
            of().tells(0, "family " + n + ":" + points + ";", 1);
            of().faulty("family " + n + ":" + n + ";", 3, 9).faulty("family " + n + ":9;", 3, 9)
                    .faulty("family " + n + ":" + points + n + ";", 3, 9 + n)
                    .faulty("family " + n + ":" + points + "0;", 3, 9 + n)
                    .faulty("family " + n + ":" + points + (n - 1) + ";", 3, 9 + n);
        }
        of().faulty("family 3:01,22;", 3, 13).faulty("family 3:0,1,121;", 3, 15);
        of().tells(0, "family 3:01,12,02;", 3);
        says("4 a SET told again (at its TOKEN)");
        of().faulty("family 3:0,0;", 4, 11).faulty("family 3:none,none;", 4, 14).faulty("family 3:012,210;", 4, 13)
                .faulty("family 7:6,0,1,2,3,4,5, 6;", 4, 24).faulty("family 3:0,1,0,1;", 4, 13);
        of().tells(0, "family 3:0,none,01;", 3).tells(0, "family 3:0,none,01;", 3);
    }

    // ---- II

    private static void making() {
        says("SHADOW: all SETS that come of SETS of the FAMILY by taking one POINT away; SHADE: by adding one");
        makes("family 3:none;", 0, "3:");
        makes("family 3:0;", 0, "3:0");
        makes("family 3:012;", 0, "3:3,5,6");
        makes("family 3:012;", 1, "3:");
        makes("family 3:01;", 1, "3:7");
        makes("family 3:none;", 1, "3:1,2,4");
        says("DOWN, UP: all that are in (that have within them) some SET of the FAMILY, they, too");
        makes("family 3:none;", 2, "3:0");
        makes("family 3:12;", 2, "3:0,2,4,6");
        makes("family 3:012;", 3, "3:7");
        makes("family 3:12;", 3, "3:6,7");
        makes("family 3:none;", 3, "3:0,1,2,3,4,5,6,7");
        says("CONTRARIES: of each SET all POINTS that are not in it");
        makes("family 3:none;", 4, "3:7");
        makes("family 3:012;", 4, "3:0");
        makes("family 1:none,0;", 4, "1:0,1");
        makes("family 7:6;", 4, "7:63");
        says("LINK of p: SETS with p, without it; LEFT of p: those without p (N stays in both)");
        of("family 7:6;").asks("part(0, 6, 0, 1) = 1", "in(1) = 7:0", "part(0, 6, 1, 1) = 0", "in(1) = 7:");
        of("family 7:0;").asks("part(0, 6, 0, 1) = 0", "in(1) = 7:", "part(0, 6, 1, 1) = 1", "in(1) = 7:1");
        says("MEETS, JOINS: all that two SETS (they may be one) have in common, have together; CLOSED by it: so on till "
                + "nothing comes");
        makes("family 3:01;", 5, "3:3");
        makes("family 3:01;", 6, "3:3");
        makes("family 4:012,013,023,123;", 5, "4:0,1,2,3,4,5,6,7,8,9,10,11,12,13,14");
        makes("family 4:0,1,2,3;", 6, "4:1,2,3,4,5,6,7,8,9,10,11,12,13,14,15");
        makes("family 4:0,1;", 5, "4:0,1,2");
    }

    private static void shifts() {
        says("SHIFT of i, j (i below j): each SET that has j and not i, and whose SET with i in place of j is not in the "
                + "FAMILY (as it was ahead of this SHIFT), becomes that one");
        of("family 3:1;").asks("shift(0, 0, 1) = 1", "in(0) = 3:1");
        of("family 3:0;").asks("shift(0, 0, 1) = 0", "in(0) = 3:1");
        of("family 3:01;").asks("shift(0, 0, 1) = 0", "in(0) = 3:3");
        of("family 3:none,2;").asks("shift(0, 0, 1) = 0", "in(0) = 3:0,4");
        of("family 3:0,1;").asks("shift(0, 0, 1) = 0", "in(0) = 3:1,2");
        of("family 3:0,1,12;").asks("shift(0, 0, 1) = 1", "in(0) = 3:1,2,5");
        of("family 3:1;").asks("shift(0, 1, 0) = -2", "shift(0, 1, 1) = -2", "in(0) = 3:2");
        says("SHIFTED: no SHIFT changes it");
        of("family 3:0,01;").asks("is(0, 7) = 1", "moved(0) = 0");
        of("family 7:6;").asks("is(0, 7) = 0");
        // only the shift of the last two points changes it
        of("family 3:0,1,01,02,2,12;").asks("is(0, 7) = 1").asks("cuts(0, 3) = 5", "is(0, 7) = 0");
        of("family 3:02;").asks("is(0, 7) = 0", "moved(0) = 1", "would(0, 1, 2) = 1");
        says("SETTLED: SHIFTS of 0 1, 0 2, .. 0 N less 1, 1 2, .., and so on round, till none changes anything");
        // 0 1, then 0 2 can't, 1 2: 12 goes to 02 and on to 01
        of("family 3:12;").asks("settles(0) = 2", "in(0) = 3:3", "settles(0) = 0");
        of("family 7:6;").asks("settles(0) = 1", "in(0) = 7:1");
        of("family 2:1;").asks("settles(0) = 1", "in(0) = 2:1");
        of("family 1:0;").asks("settles(0) = 0", "in(0) = 1:1");
    }

    private static void rows() {
        says("ROW of K (0 .. N) and m: the first m SETS of LEVEL K by numbers");
        of().bounds("row(0, 4, %, 1)", 0, 4).bounds("row(0, 1, %, 1)", 0, 1).bounds("row(0, 7, %, 1)", 0, 7);
        of().asks("row(0, 4, 2, 3) = 6", "in(0) = 4:3,5,6", "row(0, 4, 2, 4) = 9", "in(0) = 4:3,5,6,9");
        says("LEAST SHADOW of m SETS of LEVEL K (1 .. 7; of whatever POINTS there are): m is C(a, K) and C(b, K less 1) "
                + ".., each time the greatest a that can be, till nothing is left; then C(a, K less 1) and C(b, K less 2) "
                + ".. of the same");
        of().bounds("least(5, %)", 1, 7).bounds("cascade(5, %, 0)", 1, 7);
        // just C(5, 3), one less and one more
        of().asks("cascade(10, 3, 0) = 5", "cascade(10, 3, 1) = -1", "least(10, 3) = 10");
        of().asks("cascade(9, 3, 0) = 4", "cascade(9, 3, 1) = 3", "cascade(9, 3, 2) = 2", "cascade(9, 3, 3) = -1",
                "least(9, 3) = 10");
        of().asks("cascade(11, 3, 0) = 5", "cascade(11, 3, 1) = 2", "cascade(11, 3, 2) = -1", "least(11, 3) = 12");
        of().asks("cascade(1, 7, 0) = 7", "least(1, 7) = 7", "cascade(8, 7, 0) = 8", "least(8, 7) = 28",
                "cascade(7, 7, 0) = 7", "cascade(7, 7, 6) = 1", "least(7, 7) = 28");
        // more points than seven are needed
        of().asks("cascade(36, 7, 0) = 9", "least(36, 7) = 84", "least(100000, 1) = 1", "cascade(100000, 1, 0) = 100000");
    }

    private static void greatest() {
        says("GREATEST: the most SETS of a FAMILY any two of which MEET (one alone: it is not none)");
        of("family 3:none;").asks("most(0, 0, 1) = 0", "takes(0, 0, 1, 1) = 0", "in(1) = 3:");
        of("family 3:0;").asks("most(0, 0, 1) = 1", "takes(0, 0, 1, 1) = 1", "in(1) = 3:1");
        of("family 3:none,0;").asks("most(0, 0, 1) = 1", "takes(0, 0, 1, 1) = 1", "in(1) = 3:1");
        of("family 3;").asks("most(0, 0, 1) = 0");
        says("PACKED: the most any two of which are APART; FREE: the most of no two of which one is within the other; "
                + "CHAIN: the most of any two of which one is");
        of("family 3:none;").asks("most(0, 1, 1) = 1", "most(0, 2, 1) = 1", "most(0, 3, 1) = 1");
        of("family 3:none,0;").asks("most(0, 1, 9) = 2", "most(0, 2, 9) = 1", "most(0, 3, 9) = 2");
        of("family 3:0,1;").asks("most(0, 1, 9) = 2", "most(0, 2, 9) = 2", "most(0, 3, 9) = 1");
        of("family 3:01,12;").asks("most(0, 1, 9) = 1", "most(0, 2, 9) = 2", "most(0, 3, 9) = 1");
        of("family 3:0,01;").asks("most(0, 1, 9) = 1", "most(0, 2, 9) = 1", "most(0, 3, 9) = 2");
        of("family 3;").asks("most(0, 1, 1) = 0", "most(0, 2, 1) = 0", "most(0, 3, 1) = 0");
        says("COVER: the fewest POINTS that MEET all (as a SET, of like ones the least number)");
        of("family 4;").asks("cover(0) = 0");
        of("family 4:0123;").asks("cover(0) = 1");
        of("family 4:3;").asks("cover(0) = 8");
        of("family 4:01,23;").asks("cover(0) = 5");
        // 3 alone meets all; two lesser points would, too
        of("family 4:03,13,3;").asks("cover(0) = 8");
        of("family 4:03,13;").asks("cover(0) = 8");
        of("family 4:0,1,2,3;").asks("cover(0) = 15");
        says("COLOURS: the fewest parts into which SETS can be put so that no two unlike ones of a part are APART");
        of("family 3:0;").asks("colours(0, 9) = 1");
        of("family 3:0,01;").asks("colours(0, 9) = 1");
        of("family 3:0,1;").asks("colours(0, 9) = 2");
        of("family 7:0,1,2,3,4,5;").asks("colours(0, 50000) = 6").asks("adds(0, 64) = 7", "colours(0, 50000) = 7");
    }

    private static void searching() {
        says("the first of those left is taken, those left that go with it are gone on with; then it is left out");
        // 0, 01; then 1 is less than is needed: with 01 left out, 0 and what is left (1 is apart) are not more
        of("family 3:0,1,01;").asks("takes(0, 0, 9, 1) = 2", "in(1) = 3:1,3");
        // 0 alone; then 1, 12; then 12 is left
        of("family 3:0,1,12;").asks("takes(0, 0, 9, 1) = 3", "in(1) = 3:2,6");
        says("it is given up where taken and left ones together are not more than the best so far");
        // as many as the best so far: given up; one more: gone on with
        of("family 3:0,1;").asks("takes(0, 0, 9, 1) = 1", "in(1) = 3:1");
        of("family 3:0,1,2;").asks("takes(0, 0, 9, 1) = 2", "in(1) = 3:1");
        of("family 4:0,1,2,3;").asks("takes(0, 0, 9, 1) = 3", "in(1) = 4:1");
        says("the first of most counts");
        of("family 4:0,1,2,3;").asks("takes(0, 3, 9, 1) = 3", "in(1) = 4:1");
        of("family 4:01,23,02,13;").asks("takes(0, 1, 9, 1) = 3", "in(1) = 4:3,12");
        // 5, 56; then 6, 36, 46, 56; then the three left are not more
        of("family 7:6,46,5,56,36;").asks("takes(0, 0, 6, 1) = 6", "in(1) = 7:64,72,80,96", "takes(0, 0, 5, 1) = -3");
        // 6, 06, 0123456; 6 with the two left, or the three left without it, are not more
        of("family 7:6,06,26,0123456;").asks("takes(0, 3, 9, 1) = 3", "in(1) = 7:64,65,127");
        says("For GREATEST without the SET none.");
        of("family 3:none,0,01;").asks("takes(0, 0, 2, 1) = 2", "in(1) = 3:1,3");
        of("family 3:none,0,01;").asks("takes(0, 3, 3, 1) = 3", "in(1) = 3:0,1,3", "takes(0, 3, 2, 1) = -3");
        says("SETS in order, each into the least part in which it can be, into none behind the first that is empty");
        of("family 3:0,1,2;").asks("colour(0, 3, 3, 0) = 0", "colour(0, 3, 3, 1) = 1", "colour(0, 3, 3, 2) = 2");
        of("family 3:0,1,012;").asks("colour(0, 3, 3, 2) = 0");
        of("family 3:0,1,12;").asks("colour(0, 3, 3, 2) = 1");
        // the first set goes into the first part alone: 0 in it, 1 in the other, then there is no way
        of("family 3:0,1,2;").asks("colour(0, 2, 2, 0) = -1", "colour(0, 2, 1, 0) = -3");
        of("family 2:0,1;").asks("colour(0, 1, 1, 0) = -1");
        // as often back as ahead
        of("family 7:0,1,2,3,4,5,6;").asks("colour(0, 6, 6, 0) = -1", "colour(0, 6, 5, 0) = -3", "colour(0, 7, 7, 6) = 6");
        says("back, if it can be in none (the one ahead goes on to its next)");
        // 01, 12, 03 into 0, 0, 1; 24 can be in none; back to 03, to 12, which goes on to 1; 03 in 0, 24 in 1
        of("family 5:01,12,03,24;").asks("colour(0, 2, 6, 0) = 0", "colour(0, 2, 6, 1) = 1", "colour(0, 2, 6, 2) = 0",
                "colour(0, 2, 6, 3) = 1", "colour(0, 2, 5, 3) = -3");
        says("Each SET that is taken, put in a part, is a try; TOO LONG: more than told.");
        of("family 3:0,01,012;").asks("most(0, 0, 3) = 3", "most(0, 0, 2) = -3", "most(0, 0, 4) = 3");
        of("family 3:0,01,012;").asks("colours(0, 3) = 1", "colours(0, 2) = -3", "colours(0, 4) = 1");
        of("family 3:0,01,012;").asks("colour(0, 1, 3, 2) = 0", "colour(0, 1, 2, 2) = -3", "colour(0, 1, 4, 2) = 0");
        of(ALL_OF_THREE).asks("takes(0, 3, 50, 1) = 12", "most(0, 3, 12) = 4", "most(0, 3, 11) = -3");
    }

    private static void rounds() {
        says("ROUND r (0 .. (N less 1)! less 1): POINT N less 1, then the others as the r-th row of POINTS 0 .. N less 2 by "
                + "order; round.");
        int[] last = {0, 0, 0, 1, 5, 23, 119, 719};
        for (int n = 1; n <= 7; n++) {
            of("family " + n + ";").bounds("around(" + n + ", %, 0)", 0, last[n]).bounds("arcs(0, %)", 0, last[n]);
            Subject first = of();
            Subject other = of();
            first.asks("around(" + n + ", 0, 0) = " + (n - 1));
            other.asks("around(" + n + ", " + last[n] + ", 0) = " + (n - 1));
            for (int i = 1; i < n; i++) {
                first.asks("around(" + n + ", 0, " + i + ") = " + (i - 1));
                other.asks("around(" + n + ", " + last[n] + ", " + i + ") = " + (n - 1 - i));
            }
        }
        of().asks("around(4, 1, 1) = 0", "around(4, 1, 2) = 2", "around(4, 1, 3) = 1", "around(4, 2, 1) = 1",
                "around(4, 2, 2) = 0", "around(4, 2, 3) = 2");
        says("ARC of a ROUND: a SET whose POINTS stand one behind the other in it (none, all, too).");
        of("family 5:none,01234;").asks("arcs(0, 0) = 2", "arcs(0, 23) = 2");
        // round 0 is 4 0 1 2 3: 4 stands behind 3
        of("family 5:34,04,034,12,0;").asks("arcs(0, 0) = 5");
        of("family 5:03,14,24,034,02;").asks("arcs(0, 0) = 1");
        of("family 1:none,0;").asks("arcs(0, 0) = 2");
        of("family 2:none,0,1,01;").asks("arcs(0, 0) = 4");
        says("SUM by LEVELS: of each SET 1 / C(N, its LEVEL), together.");
        of("family 7:none;").asks("sum(0, 0) = 1", "sum(0, 1) = 1");
        of("family 7:0123456;").asks("sum(0, 0) = 1", "sum(0, 1) = 1");
        of("family 7:012;").asks("sum(0, 0) = 1", "sum(0, 1) = 35");
        of("family 7;").asks("sum(0, 0) = 0", "sum(0, 1) = 1");
    }

    private static void parts() {
        says("SHATTERED is a SET if each part of it is what some SET of the FAMILY has in common with it");
        of("family 3;").asks("shattered(0, 0) = 0");
        of("family 3:2;").asks("shattered(0, 0) = 1", "shattered(0, 4) = 0");
        of("family 3:none,0,1,01;").asks("shattered(0, 3) = 1", "cuts(0, 3) = 3", "shattered(0, 3) = 0");
        of("family 3:2,02,12,012;").asks("shattered(0, 3) = 1", "shattered(0, 7) = 0");
        says("FLOWER: three unlike SETS any two of which have the same POINTS in common.");
        of("family 3:0,1;").asks("flower(0, -1) = 0");
        of("family 3:0,1,2;").asks("flower(0, -1) = 1", "flower(0, 0) = 1002004");
        of("family 3:none,0,1;").asks("flower(0, -1) = 1", "flower(0, 0) = 1002");
        of("family 3:0,01,02;").asks("flower(0, -1) = 1", "flower(0, 0) = 1003005");
        of("family 3:01,02,12;").asks("flower(0, -1) = 0");
        of("family 3:0,01,012;").asks("flower(0, -1) = 0");
        says("LIKE: POINTS of one can be named so that its SETS are those of the other one.");
        of("family 3:0;", "family 3:2;", "family 3:02;").asks("alike(0, 1) = 1", "alike(0, 2) = 0", "alike(0, 0) = 1");
        of("family 3;", "family 3;", "family 3:none;").asks("alike(0, 1) = 1", "alike(0, 2) = 0");
    }

    // ---- III

    private static void acts() {
        says("ACTS: told(), makes(), row(), all(), shift(), settles(), takes(), part(), trace(), joint() by which a SLOT "
                + "becomes otherwise (N, FAMILY)");
        String[] first = {"makes(0, 2, 1)", "row(1, 3, 1, 2)", "all(1, 3, 2, -1)", "shift(0, 0, 2)", "settles(0)",
            "takes(0, 1, 99, 1)", "part(0, 1, 1, 1)", "trace(0, 6, 1)", "joint(0, 0, 3, 1)"};
        for (String act : first) {
            Subject x = of("family 3:12,2,1;");
            x.asks("count(1) = 1").ask(act);
            x.asks("count(1) = 2").ask(act);
            x.asks("count(1) = 2", "undo() = 1", "in(0) = 3:2,4,6", "in(1) = nothing");
        }
        of("family 3:12;").tells(0, "family 3:21;", 1).asks("count(1) = 1").tells(0, "family 3:12,0;", 2)
                .asks("count(1) = 2");
        // N alone is otherwise
        of("family 3:0;").tells(0, "family 4:0;", 1).asks("count(1) = 2", "undo() = 1", "in(0) = 3:1");
        of("family 3;").asks("row(0, 4, 2, 0) = -1", "count(1) = 2", "all(0, 5, 0, 0) = 0", "count(1) = 3",
                "undo() = 2", "in(0) = 4:", "undo() = 1", "in(0) = 3:");
        // a family of no sets in a slot that had nothing
        of().asks("row(2, 1, 0, 0) = -1", "count(1) = 1", "in(2) = 1:", "undo() = 0", "in(2) = nothing");
        // asking is no act
        of("family 3:12;").asks("would(0, 0, 1) = 1", "most(0, 0, 9) = 1", "without(0, 6, 1) = 0", "tell(0) = 12",
                "count(1) = 1");
        // what does not come is none
        of("family 3:0,1;").tells(0, "family 3", -4).asks("takes(0, 1, 1, 2) = -3", "count(1) = 1");
        says("adds(), cuts(), drops() of one that had a FAMILY");
        of("family 3:0;").asks("adds(0, 1) = -5", "count(1) = 1", "adds(0, 2) = 2", "count(1) = 2", "cuts(0, 4) = -6",
                "count(1) = 2", "cuts(0, 1) = 1", "count(1) = 3", "drops(1) = 0", "count(1) = 3", "drops(0) = 1",
                "count(1) = 4", "drops(0) = 0", "count(1) = 4", "undo() = 3", "in(0) = 3:2", "undo() = 2",
                "in(0) = 3:1,2", "undo() = 1", "in(0) = 3:1");
        of("family 3;").asks("drops(0) = 1", "count(1) = 2", "undo() = 1", "in(0) = 3:");
    }

    private static void undoing() {
        says("The latest 10 can be undone one by one (SLOTS as they were).");
        for (int acts = 8; acts <= 25; acts++) {
            Subject x = of();
            for (int i = 0; i < acts; i++) {
                // in turn into each slot: act i leaves i + 1 sets
                x.ask("row(" + i % 3 + ", 7, 3, " + (i + 1) + ")");
            }
            int can = Math.min(10, acts);
            x.asks("count(1) = " + can);
            for (int i = acts - 1; i >= acts - can; i--) {
                x.asks("look(" + i % 3 + ", 1) = " + (i + 1), "undo() = " + (i - acts + can));
                x.asks("look(" + i % 3 + ", 1) = " + (i < 3 ? -2 : i - 2));
            }
            x.asks("undo() = -1", "count(1) = 0");
            for (int slot = 0; slot < 3; slot++) {
                int left = acts - can - 1;
                int latest = left - Math.floorMod(left - slot, 3);
                x.asks("look(" + slot + ", 1) = " + (latest < 0 ? -2 : latest + 1));
            }
        }
        // what was undone is forgotten, and the next acts count anew
        Subject y = of();
        for (int i = 0; i < 12; i++) {
            y.ask("row(0, 7, 3, " + (i + 1) + ")");
        }
        for (int i = 0; i < 4; i++) {
            y.ask("undo()");
        }
        y.asks("count(1) = 6", "look(0, 1) = 8", "row(0, 7, 3, 30) = 88", "count(1) = 7", "undo() = 6", "look(0, 1) = 8");
        for (int i = 5; i >= 0; i--) {
            y.asks("undo() = " + i);
        }
        y.asks("undo() = -1", "look(0, 1) = 2");
    }

    private static void slots() {
        says("SLOTS 0 .. 2.");
        for (String call : NEED_A_FAMILY) {
            of("family 3:0,1;", "family 3:0,1;", "family 3:0,1;").bounds(call.replace("S", "%"), 0, 2);
        }
        for (String call : COME_INTO) {
            of("", "family 3:0,1;").bounds(call.replace("S", "%"), 0, 2);
        }
        says("-2 (where nothing else is told): there is no such SLOT, FAMILY in it, POINT, SET, LEVEL, what, number as told");
        for (String call : NEED_A_FAMILY) {
            for (int slot = 0; slot < 3; slot += 2) {
                of("", "family 3:0,1;").stays(call.replace("S", "" + slot) + " = -2");
            }
            of("family 3:0,1;").stays(call.replace("S", "1") + " = -2");
            // one of no sets is there
            Subject x = of("family 3;", "family 3:0,1;");
            Sentences.due(call + " of no sets is refused", x.ask(call.replace("S", "0")) == -2 ? "yes" : "no", "no");
            // dropped, it is not; the act undone, it is again
            of("family 3;", "family 3:0,1;").asks("drops(0) = 1", call.replace("S", "0") + " = -2", "undo() = 2");
        }
        Subject x = of("family 3:0,1,12;", "family 4:0;");
        x.stays("degree(0, 3) = -2", "part(0, 3, 0, 1) = -2", "together(0, 0, 3, 0) = -2", "has(0, 8) = -2",
                "adds(0, 8) = -2", "cuts(0, 8) = -2", "trace(0, 8, 1) = -2", "level(0, 4) = -2", "answers(0, 4) = -2",
                "look(0, 7) = -2", "makes(0, 10, 1) = -2", "joint(0, 0, 4, 1) = -2", "arcs(0, 2) = -2",
                "most(0, 0, 50001) = -2", "row(0, 3, 1, 4) = -2", "set(0, -1) = -2");
        // a point, set, level or round of another slot's N
        x.asks("degree(1, 3) = 0", "has(1, 8) = 0", "level(1, 4) = 0", "arcs(1, 2) = 1");
        says("ahead of NONE, -3, -5, -6");
        aheadOfOthers();
    }

    private static void aheadOfOthers() {
        // NONE: what is asked for would not be there, either
        of("family 3;").stays("set(1, 9) = -2", "lacks(1, 999) = -2", "cascade(0, 8, 9) = -2", "cascade(100001, 1, 9) = -2",
                "ranked(8, 999) = -2", "cover(1) = -2", "flower(1, 9) = -2", "apart(1, 9) = -2", "covers(1, 999) = -2",
                "next(0, 8) = -2", "look(0, -1) = -2", "shatters(0, 2) = -2", "row(3, 3, 1, 0) = -2", "row(0, 3, 4, 0) = -2",
                "colour(0, 8, 9, 9) = -2", "colour(0, 1, 0, 9) = -2", "colour(0, 1, 50001, 9) = -2");
        // -3: it would be TOO LONG, too
        of("family 3:0,1,2;").stays("most(0, 0, 1) = -3", "most(0, 4, 1) = -2", "takes(0, 0, 1, 1) = -3",
                "takes(0, 0, 1, 3) = -2", "takes(0, 4, 1, 1) = -2", "colours(0, 1) = -3", "colours(0, 0) = -2",
                "colour(0, 3, 1, 0) = -3", "colour(0, 8, 1, 0) = -2", "colour(0, 0, 1, 0) = -2");
        // -5: a number that is no set of these points is not asked whether it is there
        of("family 3:0;", "family 4:3;").stays("adds(0, 1) = -5", "adds(0, 8) = -2", "adds(1, 8) = -5", "adds(3, 1) = -2");
        // -6: a set that is not there, the set none in it, unlike N
        of("family 3:0,1;", "family 4:none;").stays("without(0, 4, 0) = -6", "without(0, 4, 7) = -2", "without(0, 4, -1) = -2",
                "without(0, 8, 0) = -2", "cuts(0, 4) = -6", "cuts(0, 8) = -2", "steps(0, 4, 1) = -6", "steps(0, 4, 8) = -2",
                "steps(0, 8, 4) = -2", "height(0, 4) = -6", "height(0, 8) = -2", "joint(0, 1, 0, 2) = -6",
                "joint(0, 1, 4, 2) = -2", "joint(0, 1, 0, 3) = -2", "colours(1, 1) = -6", "colours(1, 0) = -2",
                "colour(1, 1, 1, 0) = -6", "colour(1, 0, 1, 0) = -2", "colour(1, 1, 0, 0) = -2", "colour(1, 1, 1, -1) = -2");
    }

    public static void main(String[] args) {
        Sentences.section("Terms");
        points();
        texts();
        faults();
        making();
        shifts();
        rows();
        greatest();
        searching();
        rounds();
        parts();
        acts();
        undoing();
        slots();
        Sentences.finish(List.of("Terms"));
    }
}
