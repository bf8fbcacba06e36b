/**
 * The promises of the document one by one: ordinary inputs, the edges it names, and wrong inputs. What is due
 * was worked out by hand from the document's words.
 */
public final class PromiseTest {
    private static final int MIN = Integer.MIN_VALUE;
    private static final int MAX = Integer.MAX_VALUE;
    private static final String FANO = "family 7:012,034,056,135,146,236,245;";

    private static int wrong = 0;
    private static int asked = 0;
    private static int promise = 0;

    private static void due(String what, int got, int want) {
        asked++;
        if (got != want) {
            wrong++;
            System.out.println("promise " + promise + ": " + what + " answered " + got + ", due is " + want);
        }
    }

    private static void due(String what, String got, String want) {
        asked++;
        if (!got.equals(want)) {
            wrong++;
            System.out.println("promise " + promise + ": " + what + " is '" + got + "', due is '" + want + "'");
        }
    }

    // ---- texts

    private static void feed(MeetingSets x, String text) {
        Texts.feed(x, text);
    }

    private static int tell(MeetingSets x, int slot, String text) {
        feed(x, text);
        return x.told(slot);
    }

    /** A new object with a family in slot 0. */
    private static MeetingSets of(String text) {
        MeetingSets x = new MeetingSets();
        if (tell(x, 0, text) < 0) {
            throw new IllegalArgumentException(text);
        }
        return x;
    }

    private static String in(MeetingSets x, int slot) {
        return Texts.in(x, slot);
    }

    private static String out(MeetingSets x) {
        return Texts.out(x);
    }

    private static void faulty(String text, int number, int place) {
        MeetingSets x = of("family 2:1;");
        due(text + " told", tell(x, 0, text), -4);
        due(text + " fault", x.fault(0), number);
        due(text + " place", x.fault(1), place);
        due(text + " tape", x.count(2), 0);
        due(text + " acts", x.count(1), 1);
        due(text + " stays", in(x, 0), "2:2");
    }

    // ---- the tape and texts

    private static void p1() {
        MeetingSets x = new MeetingSets();
        due("slots", x.count(0), 0);
        due("acts", x.count(1), 0);
        due("tape", x.count(2), 0);
        due("out", x.count(3), 0);
        for (int slot = 0; slot < 3; slot++) {
            due("slot " + slot, in(x, slot), "nothing");
            due("drops", x.drops(slot), 0);
        }
        due("NONE", MeetingSets.NONE, -1);
        MeetingSets y = of("family 1:0;");
        due("another object", new MeetingSets().count(0), 0);
        due("this object", y.count(0), 1);
    }

    private static void p2() {
        MeetingSets x = new MeetingSets();
        // "fami" "ly 2" ":01," "0,1;" and four blanks
        due("feed", x.feed(0x66616d69, 0x6c792032, 0x3a30312c, 0x302c313b, 0x20202020), 20);
        due("told", x.told(0), 3);
        due("family", in(x, 0), "2:1,2,3");
        for (int i = 1; i <= 40; i++) {
            due("feed " + i, x.feed(i, MIN, MAX, -1, 0), 20 * i);
        }
        due("beyond 800", x.feed(0, 0, 0, 0, 0), -1);
        due("none came", x.count(2), 800);
        due("end", x.end(781), 781);
        due("beyond by one", x.feed(0, 0, 0, 0, 0), -1);
        due("none came", x.count(2), 781);
        due("end", x.end(780), 780);
        due("just 800", x.feed(0, 0, 0, 0, 0), 800);
        MeetingSets y = new MeetingSets();
        y.feed(-1, -1, -1, -1, -1);
        due("byte 255", y.told(0), -4);
        due("byte 255", y.fault(0) * 100 + y.fault(1), 100);
    }

    private static void p3() {
        MeetingSets x = new MeetingSets();
        due("of nothing", x.end(0), 0);
        due("too many", x.end(1), -1);
        x.feed(0x66616d69, 0x6c792033, 0x3b414141, 0x41414141, 0x41414141);
        due("below 0", x.end(-1), -1);
        due("below 0", x.end(MIN), -1);
        due("too many", x.end(21), -1);
        due("too many", x.end(MAX), -1);
        due("nothing happened", x.count(2), 20);
        due("all", x.end(20), 20);
        due("nine", x.end(9), 9);
        due("gone", x.end(10), -1);
        due("told", x.told(0), 0);
        due("N", x.look(0, 0), 3);
    }

    private static void p4() {
        MeetingSets x = new MeetingSets();
        due("told", tell(x, 1, "family 3:12,0,none;"), 3);
        due("by numbers", in(x, 1), "3:0,1,6");
        due("tape", x.count(2), 0);
        feed(x, "family 4;");
        due("no such slot", x.told(3), -2);
        due("no such slot", x.told(-1), -2);
        due("the tape stays", x.count(2), 9);
        due("no sets", x.told(1), 0);
        due("another N", in(x, 1), "4:");
        due("blanks", tell(x, 2, " \n family\n7 : 6543210 ,\n none;  \n"), 2);
        due("blanks", in(x, 2), "7:0,127");
        due("no blanks", tell(x, 2, "family1:0;"), 1);
        due("no blanks", in(x, 2), "1:1");
        due("digits as they come", tell(x, 2, "family 5:40,314;"), 2);
        due("digits as they come", in(x, 2), "5:17,26");
        due("a fault", tell(x, 2, "family 5:40,314"), -4);
        due("all stays", in(x, 2), "5:17,26");
        due("the tape is empty", x.count(2), 0);
        due("two feeds", feedTwice(x), 2);
    }

    private static int feedTwice(MeetingSets x) {
        feed(x, "family 3:0");
        feed(x, "1,2;");
        return x.told(0);
    }

    private static void p5() {
        MeetingSets x = new MeetingSets();
        due("ahead of any", x.fault(0), 0);
        due("ahead of any", x.fault(1), -1);
        due("other", x.fault(2), -1);
        due("other", x.fault(-1), -1);
        faulty("", 1, 0);
        faulty("   ", 1, 3);
        faulty("\n;", 1, 1);
        faulty("famil 3;", 1, 0);
        faulty("familyy 3;", 1, 0);
        faulty("Family 3;", 1, 0);
        faulty("family", 1, 6);
        faulty("family three;", 1, 7);
        faulty("family :0;", 1, 7);
        faulty("family 0;", 2, 7);
        faulty("family 8:;", 2, 7);
        faulty("family 10;", 2, 7);
        faulty("family 99999999999999999999999999999999999999;", 2, 7);
        faulty("family 4294967299;", 2, 7);
        faulty("family 3", 1, 8);
        faulty("family 3 3;", 1, 9);
        faulty("family 3,0;", 1, 8);
        faulty("family 3:;", 1, 9);
        faulty("family 3:0,;", 1, 11);
        faulty("family 3:0,,1;", 1, 11);
        faulty("family 3:nonee;", 1, 9);
        faulty("family 3:non;", 1, 9);
        faulty("family 3:nonez;", 1, 9);
        faulty("family 3:zone;", 1, 9);
        faulty("zamily 3;", 1, 0);
        faulty("family 3:none1;", 1, 13);
        faulty("family 3:0 1;", 1, 11);
        faulty("family 3:0:1;", 1, 10);
        faulty("family 3:0;;", 1, 11);
        faulty("family 3:0; family", 1, 12);
        faulty("family 3:0\t;", 1, 10);
        faulty("family 3:0;\r", 1, 11);
        faulty("family 3:0\u00e9;", 1, 10);
        faulty("family 3:0 ", 1, 11);
        faulty("family 3:3;", 3, 9);
        faulty("family 3:013;", 3, 11);
        faulty("family 3:010;", 3, 11);
        faulty("family 3:0193;", 3, 11);
        faulty("family 3:0,1,00;", 3, 14);
        faulty("family 3:01,10;", 4, 12);
        faulty("family 3:none,0,none;", 4, 16);
        faulty("family 3:0,0,3;", 4, 11);
        faulty("family 3:0,3,0;", 3, 11);
        tell(x, 0, "family 3:01,01;");
        due("fault", x.fault(0), 4);
        due("refused", x.told(5), -2);
        due("stays by -2", x.fault(0), 4);
        due("stays by -2", x.fault(1), 12);
        tell(x, 0, "family 3;");
        due("without", x.fault(0), 0);
        due("without", x.fault(1), -1);
    }

    private static void p6() {
        MeetingSets x = of("family 3:0;");
        due("slots", x.count(0), 1);
        due("acts", x.count(1), 1);
        tell(x, 2, "family 3;");
        due("of no sets", x.count(0), 5);
        due("acts", x.count(1), 2);
        x.drops(0);
        due("slots", x.count(0), 4);
        x.feed(1, 2, 3, 4, 5);
        due("tape", x.count(2), 20);
        due("out", x.count(3), 0);
        x.tell(2);
        due("out", x.count(3), 9);
        due("other", x.count(4), -1);
        due("other", x.count(-1), -1);
        due("other", x.count(MAX), -1);
    }

    // ---- looking

    private static void p7() {
        MeetingSets x = of("family 5:0,12,013,34;");
        // apart: 0 and 12, 0 and 34, 12 and 34; 013 meets 0, 12, 34
        int[] want = {5, 4, 1, 3, 31, 0, 3};
        for (int what = 0; what < 7; what++) {
            due("look " + what, x.look(0, what), want[what]);
        }
        tell(x, 1, "family 6:024,02,012;");
        due("some", x.look(1, 4), 23);
        due("all", x.look(1, 5), 5);
        due("no two apart", x.look(1, 6), 0);
        tell(x, 1, FANO);
        int[] lines = {7, 7, 3, 3, 127, 0, 0};
        for (int what = 0; what < 7; what++) {
            due("lines, " + what, x.look(1, what), lines[what]);
        }
        tell(x, 1, "family 4;");
        int[] empty = {4, 0, -1, -1, 0, 15, 0};
        for (int what = 0; what < 7; what++) {
            due("of no sets, " + what, x.look(1, what), empty[what]);
        }
        tell(x, 1, "family 3:none;");
        due("none", x.look(1, 2), 0);
        due("none", x.look(1, 3), 0);
        due("none is apart from unlike ones alone", x.look(1, 6), 0);
        due("what", x.look(0, 7), -2);
        due("what", x.look(0, -1), -2);
        due("nothing", x.look(2, 0), -2);
        due("no slot", x.look(3, 0), -2);
        due("no slot", x.look(MIN, 0), -2);
    }

    private static void p8() {
        MeetingSets x = of("family 7:6,0,none,0123456;");
        due("0", x.set(0, 0), 0);
        due("1", x.set(0, 1), 1);
        due("2", x.set(0, 2), 64);
        due("3", x.set(0, 3), 127);
        due("not so many", x.set(0, 4), -1);
        due("not so many", x.set(0, MAX), -1);
        due("below 0", x.set(0, -1), -2);
        due("nothing", x.set(1, 0), -2);
        due("no slot", x.set(-1, 0), -2);
    }

    private static void p9() {
        MeetingSets x = of("family 3:none,12;");
        due("none", x.has(0, 0), 1);
        due("12", x.has(0, 6), 1);
        due("0", x.has(0, 1), 0);
        due("012", x.has(0, 7), 0);
        due("no set", x.has(0, 8), -2);
        due("no set", x.has(0, -1), -2);
        due("nothing", x.has(2, 0), -2);
        tell(x, 1, "family 7:0123456,56;");
        due("127", x.has(1, 127), 1);
        due("96", x.has(1, 96), 1);
        due("64", x.has(1, 64), 0);
        due("128", x.has(1, 128), -2);
    }

    /** What is due for the eleven questions, as eleven signs. */
    private static void isSuch(String text, String want) {
        MeetingSets x = of(text);
        StringBuilder got = new StringBuilder();
        for (int what = 0; what <= 10; what++) {
            got.append(x.is(0, what));
        }
        due(text, got.toString(), want);
    }

    private static void p10() {
        isSuch("family 3;", "11111111111");
        isSuch("family 3:none;", "01101101011");
        isSuch("family 3:0;", "11001111111");
        isSuch("family 3:2;", "11001110111");
        isSuch("family 3:01,02,12;", "11000101000");
        isSuch("family 3:0,01,012;", "10001011111");
        isSuch("family 3:none,0,1,01;", "00100001011");
        isSuch("family 3:0,01,02,012;", "10010011111");
        isSuch("family 2:none,0,1,01;", "00110001011");
        isSuch("family 3:01,02,12,012;", "10010001001");
        isSuch("family 4:012,013,023,123;", "11000101100");
        isSuch("family 4:0,1,01;", "00000001001");
        isSuch("family 4:1,2,none;", "00100000010");
        isSuch(FANO, "11000100000");
        isSuch("family 3:1,12;", "10001010111");
        isSuch("family 7:6,56,456;", "10001010111");
        isSuch("family 7:0123456;", "11011111111");
        MeetingSets x = of("family 3:0;");
        due("what", x.is(0, 11), -2);
        tell(x, 1, "family 3:none,0,1;");
        due("beside another slot", x.is(0, 0), 1);
        due("beside another slot", x.is(1, 0), 0);
        x.drops(1);
        due("what", x.is(0, -1), -2);
        due("nothing", x.is(1, 0), -2);
        due("no slot", x.is(3, 0), -2);
    }

    private static void p11() {
        MeetingSets x = of("family 7:0,016,6,06,none;");
        due("0", x.degree(0, 0), 3);
        due("1", x.degree(0, 1), 1);
        due("2", x.degree(0, 2), 0);
        due("6", x.degree(0, 6), 3);
        due("no point", x.degree(0, 7), -2);
        due("no point", x.degree(0, -1), -2);
        due("nothing", x.degree(1, 0), -2);
        tell(x, 1, "family 2;");
        due("of no sets", x.degree(1, 1), 0);
        due("no point", x.degree(1, 2), -2);
    }

    private static void p12() {
        MeetingSets x = of("family 5:4,34,14,3,1;");
        // degrees 0 2 0 2 3
        int[] want = {4, 1, 3, 0, 2};
        for (int k = 0; k < 5; k++) {
            due("order " + k, x.order(0, k), want[k]);
        }
        due("k", x.order(0, 5), -2);
        due("k", x.order(0, -1), -2);
        due("nothing", x.order(1, 0), -2);
        tell(x, 1, "family 3;");
        due("of no sets", x.order(1, 2), 2);
        tell(x, 1, "family 7:6,56,46,5;");
        due("of seven points", x.order(1, 0) * 1000 + x.order(1, 1) * 100 + x.order(1, 2) * 10 + x.order(1, 6), 6543);
        due("k", x.order(1, 7), -2);
    }

    private static void p13() {
        MeetingSets x = of("family 4:none,0,3,012,0123;");
        int[] want = {1, 2, 0, 1, 1};
        for (int level = 0; level <= 4; level++) {
            due("level " + level, x.level(0, level), want[level]);
        }
        due("no level", x.level(0, 5), -2);
        due("no level", x.level(0, -1), -2);
        due("nothing", x.level(1, 0), -2);
    }

    // ---- making

    private static void made(String text, int what, String want) {
        MeetingSets x = of(text);
        String before = in(x, 0);
        int size = want.endsWith(":") ? 0 : want.split(",").length;
        due(text + " makes " + what, x.makes(0, what, 1), size);
        due(text + " makes " + what, in(x, 1), want);
        due(text + " stays", in(x, 0), before);
        due(text + " makes into itself", x.makes(0, what, 0), size);
        due(text + " makes into itself", in(x, 0), want);
    }

    private static void p14() {
        made("family 3:01,2;", 0, "3:0,1,2");
        made("family 3:none;", 0, "3:");
        made("family 7:6,06;", 0, "7:0,1,64");
        made("family 3:01,2;", 1, "3:5,6,7");
        made("family 3:012;", 1, "3:");
        made("family 7:none,5;", 1, "7:1,2,4,8,16,32,33,34,36,40,48,64,96");
        made("family 3:01,2;", 2, "3:0,1,2,3,4");
        made("family 7:56;", 2, "7:0,32,64,96");
        made("family 3:01,2;", 3, "3:3,4,5,6,7");
        made("family 7:012345;", 3, "7:63,127");
        made("family 3:none,01,2;", 4, "3:3,4,7");
        made("family 7:none,6;", 4, "7:63,127");
        made("family 4:01,12,23;", 5, "4:0,2,3,4,6,12");
        made("family 4:012,013,023;", 5, "4:1,3,5,7,9,11,13");
        made("family 4:0,1,2;", 6, "4:1,2,3,4,5,6,7");
        made("family 4:none,3;", 6, "4:0,8");
        made("family 7:5,6,46;", 6, "7:32,64,80,96,112");
        made("family 7:012345,0123456,16;", 5, "7:2,63,66,127");
        made("family 4:01,012,3,0123;", 7, "4:3,8");
        made("family 4:none,0,1;", 7, "4:0");
        made("family 4:01,012,3,13;", 8, "4:7,10");
        made("family 4:none;", 8, "4:0");
        made("family 4:0,012,none;", 8, "4:7");
        made("family 7:none,0123456,6;", 8, "7:127");
        made("family 7:0,0123456,6;", 7, "7:1,64");
        made("family 4:01,23;", 9, "4:5,6,9,10");
        made("family 3:01,02,12;", 9, "3:3,5,6");
        made("family 3:none,0;", 9, "3:");
        made("family 3;", 9, "3:0");
        for (int what = 0; what < 9; what++) {
            made("family 3;", what, "3:");
        }
        MeetingSets x = of("family 3:0;");
        due("what", x.makes(0, 10, 1), -2);
        due("what", x.makes(0, -1, 1), -2);
        due("to", x.makes(0, 0, 3), -2);
        due("to", x.makes(0, 0, -1), -2);
        due("nothing", x.makes(1, 0, 0), -2);
        due("acts", x.count(1), 1);
        due("nothing came", in(x, 1), "nothing");
    }

    private static void p15() {
        MeetingSets x = of("family 7:06,6,0,1,none;");
        due("link", x.part(0, 6, 0, 1), 2);
        due("link", in(x, 1), "7:0,1");
        due("link", x.part(0, 0, 0, 1), 2);
        due("link", in(x, 1), "7:0,64");
        due("left", x.part(0, 0, 1, 1), 3);
        due("left", in(x, 1), "7:0,2,64");
        due("left", x.part(0, 6, 1, 2), 3);
        due("left", in(x, 2), "7:0,1,2");
        due("no sets", x.part(0, 3, 0, 2), 0);
        due("no sets, N stays", in(x, 2), "7:");
        due("into itself", x.part(0, 0, 0, 0), 2);
        due("into itself", in(x, 0), "7:0,64");
        due("no point", x.part(0, 7, 0, 1), -2);
        due("no point", x.part(0, -1, 0, 1), -2);
        due("what", x.part(0, 0, 2, 1), -2);
        due("what", x.part(0, 0, -1, 1), -2);
        due("to", x.part(0, 0, 0, 3), -2);
        x.drops(2);
        due("nothing", x.part(2, 0, 0, 1), -2);
    }

    private static void p16() {
        MeetingSets x = of("family 3:1,0,12,2;");
        due("shift", x.shift(0, 0, 1), 1);
        due("shift", in(x, 0), "3:1,2,4,5");
        due("shift again", x.shift(0, 0, 1), 0);
        due("not an act", x.count(1), 2);
        tell(x, 1, "family 7:6,16,06,26;");
        due("the last point", x.shift(1, 0, 6), 3);
        due("the last point", in(x, 1), "7:1,3,5,65");
        due("i is j", x.shift(0, 1, 1), -2);
        due("i above j", x.shift(0, 2, 1), -2);
        due("no point", x.shift(0, 0, 3), -2);
        due("no point", x.shift(0, -1, 1), -2);
        due("nothing", x.shift(2, 0, 1), -2);
        tell(x, 2, "family 1:0;");
        due("one point", x.shift(2, 0, 1), -2);
    }

    private static void p17() {
        MeetingSets x = of("family 3:1,0,12,2;");
        due("0 1", x.would(0, 0, 1), 1);
        due("0 2", x.would(0, 0, 2), 1);
        due("1 2", x.would(0, 1, 2), 0);
        due("stays", in(x, 0), "3:1,2,4,6");
        due("acts", x.count(1), 1);
        due("i is j", x.would(0, 1, 1), -2);
        due("i above j", x.would(0, 2, 1), -2);
        due("no point", x.would(0, 0, 3), -2);
        due("no point", x.would(0, MIN, 0), -2);
        due("nothing", x.would(1, 0, 1), -2);
    }

    private static void p18() {
        MeetingSets x = of("family 3:12,2;");
        due("settles", x.settles(0), 3);
        due("settles", in(x, 0), "3:1,3");
        due("one act", x.count(1), 2);
        due("again", x.settles(0), 0);
        due("no act", x.count(1), 2);
        tell(x, 1, "family 7:456;");
        // 456 goes by 0 4 to 056, by 0 5 not, by 1 5 to 016, by 2 6 to 012
        due("456", x.settles(1), 3);
        due("456", in(x, 1), "7:7");
        tell(x, 1, "family 4:23,1;");
        // 0 1: 1 to 0; 0 2: 23 to 03; 1 3: 03 to 01
        due("23,1", x.settles(1), 3);
        due("23,1", in(x, 1), "4:1,3");
        tell(x, 1, "family 4:3,2;");
        // 0 2: 2 to 0; 0 3 can't; 1 3: 3 to 1
        due("3,2", x.settles(1), 2);
        due("3,2", in(x, 1), "4:1,2");
        tell(x, 1, "family 4;");
        due("no sets", x.settles(1), 0);
        due("nothing", x.settles(2), -2);
        due("no slot", x.settles(3), -2);
    }

    private static void p19() {
        MeetingSets x = new MeetingSets();
        due("row", x.row(0, 5, 2, 4), 9);
        due("row", in(x, 0), "5:3,5,6,9");
        due("level 0", x.row(0, 5, 0, 1), 0);
        due("level 0", in(x, 0), "5:0");
        due("no sets", x.row(0, 5, 3, 0), -1);
        due("no sets", in(x, 0), "5:");
        due("all there are", x.row(1, 7, 3, 35), 112);
        due("all there are", x.look(1, 1), 35);
        due("the whole", x.row(1, 7, 7, 1), 127);
        due("m", x.row(0, 5, 2, 11), -2);
        due("m", x.row(0, 5, 2, -1), -2);
        due("K", x.row(0, 5, 6, 0), -2);
        due("K", x.row(0, 5, -1, 0), -2);
        due("N", x.row(0, 8, 2, 1), -2);
        due("N", x.row(0, 0, 0, 0), -2);
        due("slot", x.row(3, 5, 2, 1), -2);
        due("stays", in(x, 0), "5:");
    }

    private static void p20() {
        MeetingSets x = new MeetingSets();
        due("all", x.all(0, 4, 2, -1), 6);
        due("all", in(x, 0), "4:3,5,6,9,10,12");
        due("with 3", x.all(0, 4, 2, 3), 3);
        due("with 3", in(x, 0), "4:9,10,12");
        due("level 0", x.all(1, 3, 0, -1), 1);
        due("level 0", in(x, 1), "3:0");
        due("none with it", x.all(1, 3, 0, 1), 0);
        due("none with it", in(x, 1), "3:");
        due("seven", x.all(2, 7, 4, 6), 20);
        due("the whole", x.all(2, 4, 4, -1), 1);
        due("the whole", in(x, 2), "4:15");
        due("point", x.all(0, 4, 2, 4), -2);
        due("point", x.all(0, 4, 2, -2), -2);
        due("K", x.all(0, 4, 5, -1), -2);
        due("K", x.all(0, 4, -1, -1), -2);
        due("N", x.all(0, 8, 2, -1), -2);
        due("N", x.all(0, 0, 0, -1), -2);
        due("slot", x.all(-1, 4, 2, -1), -2);
    }

    private static void p21() {
        MeetingSets x = new MeetingSets();
        due("0", x.least(0, 7), 0);
        due("1 of 1", x.least(1, 1), 1);
        due("100000 of 1", x.least(100000, 1), 1);
        due("10 of 3", x.least(10, 3), 10);
        due("11 of 3", x.least(11, 3), 12);
        // 19 is C(5,3) C(4,2) C(3,1)
        due("19 of 3", x.least(19, 3), 10 + 4 + 1);
        due("1 of 7", x.least(1, 7), 7);
        due("8 of 7", x.least(8, 7), 28);
        // 100000 is C(447,2) and 319
        due("100000 of 2", x.least(100000, 2), 448);
        due("m", x.least(100001, 2), -2);
        due("m", x.least(-1, 2), -2);
        due("k", x.least(1, 0), -2);
        due("k", x.least(1, 8), -2);
    }

    private static void p22() {
        MeetingSets x = new MeetingSets();
        due("19 of 3", x.cascade(19, 3, 0), 5);
        due("19 of 3", x.cascade(19, 3, 1), 4);
        due("19 of 3", x.cascade(19, 3, 2), 3);
        due("19 of 3", x.cascade(19, 3, 3), -1);
        due("100000 of 2", x.cascade(100000, 2, 0), 447);
        due("100000 of 2", x.cascade(100000, 2, 1), 319);
        due("nothing", x.cascade(0, 3, 0), -1);
        due("not so many", x.cascade(19, 3, MAX), -1);
        due("i", x.cascade(19, 3, -1), -2);
        due("m", x.cascade(-1, 3, 0), -2);
        due("m", x.cascade(100001, 3, 0), -2);
        due("k", x.cascade(1, 0, 0), -2);
        due("k", x.cascade(1, 8, 0), -2);
        // of every m and k, the parts fall, and together they are m
        for (int k = 1; k <= 7; k++) {
            for (int m = 0; m <= 100000; m += 1 + m / 50) {
                x = new MeetingSets();
                long left = m;
                int last = MAX;
                for (int i = 0; x.cascade(m, k, i) >= 0; i++) {
                    int a = x.cascade(m, k, i);
                    due("falls", a < last ? 1 : 0, 1);
                    last = a;
                    long ways = 1;
                    for (int t = 1; t <= k - i; t++) {
                        ways = ways * (a - (k - i) + t) / t;
                    }
                    left -= ways;
                }
                due("together " + m + " " + k, (int) left, 0);
            }
        }
    }

    private static void p23() {
        MeetingSets x = new MeetingSets();
        due("0 0", x.choose(0, 0), 1);
        due("7 3", x.choose(7, 3), 35);
        due("20 10", x.choose(20, 10), 184756);
        due("20 20", x.choose(20, 20), 1);
        due("beyond", x.choose(5, 6), 0);
        due("beyond", x.choose(5, MAX), 0);
        due("beyond", x.choose(5, -1), 0);
        due("n", x.choose(21, 1), -2);
        due("n", x.choose(-1, 0), -2);
    }

    // ---- searches

    private static void p24() {
        MeetingSets x = of("family 5:01,02,03,04,12,13,14,23,24,34;");
        int[] want = {4, 2, 10, 1};
        for (int what = 0; what < 4; what++) {
            due("twos of five, " + what, x.most(0, what, 50000), want[what]);
        }
        tell(x, 0, "family 3:none,0,1,2,01,02,12,012;");
        int[] cube = {4, 4, 3, 4};
        for (int what = 0; what < 4; what++) {
            due("all of three, " + what, x.most(0, what, 50000), cube[what]);
        }
        tell(x, 0, "family 3:none;");
        due("none alone meets nobody", x.most(0, 0, 1), 0);
        due("none alone is apart", x.most(0, 1, 1), 1);
        due("none alone", x.most(0, 2, 1), 1);
        due("none alone", x.most(0, 3, 1), 1);
        tell(x, 0, "family 3;");
        due("no sets", x.most(0, 3, 1), 0);
        tell(x, 0, "family 3:0,1;");
        due("0,1: take 0; 1 alone is not more", x.most(0, 0, 1), 1);
        tell(x, 0, "family 3:0,1,2;");
        due("0,1,2: 0, then 1", x.most(0, 0, 2), 1);
        due("one too few", x.most(0, 0, 1), -3);
        due("what", x.most(0, 4, 5), -2);
        due("what", x.most(0, -1, 5), -2);
        due("tries", x.most(0, 0, 0), -2);
        due("tries", x.most(0, 0, 50001), -2);
        due("nothing", x.most(1, 0, 5), -2);
        due("no slot", x.most(3, 0, 5), -2);
        x.all(0, 7, 3, -1);
        due("TOO LONG", x.most(0, 0, 100), -3);
        x.all(0, 7, 1, -1);
        due("ones of seven", x.most(0, 0, 6), 1);
        due("ones of seven", x.most(0, 0, 5), -3);
        due("ones of seven", x.most(0, 1, 7), 7);
        due("ones of seven", x.most(0, 2, 7), 7);
        tell(x, 0, FANO);
        due("lines", x.most(0, 0, 7), 7);
        due("lines", x.most(0, 1, 50), 1);
        tell(x, 0, "family 7:6,56,456,3456,03456,013456,0123456,none;");
        due("a chain", x.most(0, 3, 8), 8);
        due("a chain", x.most(0, 3, 7), -3);
    }

    private static void p25() {
        MeetingSets x = of("family 3:0,1,2;");
        due("takes", x.takes(0, 0, 5, 1), 2);
        due("the first of most", in(x, 1), "3:1");
        due("packed", x.takes(0, 1, 5, 1), 3);
        due("packed", in(x, 1), "3:1,2,4");
        due("just so many", x.takes(0, 0, 2, 2), 2);
        due("TOO LONG", x.takes(0, 1, 2, 2), -3);
        due("nothing happens", in(x, 2), "3:1");
        int acts = x.count(1);
        due("no act", x.takes(0, 0, 2, 2), 2);
        due("no act", x.count(1), acts);
        tell(x, 0, "family 3:none,0,01,1;");
        // without none: 0, 01; then 01, 1 can't be more than 2
        due("greatest is without none", x.takes(0, 0, 50, 1), 2);
        due("greatest is without none", in(x, 1), "3:1,3");
        // none, 0, 01 are taken; with none alone the two left are not more than 3
        due("chain", x.takes(0, 3, 50, 1), 3);
        due("chain", in(x, 1), "3:0,1,3");
        due("free", x.takes(0, 2, 50, 1), 3);
        due("free", in(x, 1), "3:1,2");
        due("into itself", x.takes(0, 2, 50, 0), 3);
        due("into itself", in(x, 0), "3:1,2");
        tell(x, 0, "family 7:6,46,5,56,36;");
        // 32 5, 64 6, 72 36, 80 46, 96 56: 5, 56; then 6, 36, 46, 56; then the three left are not more
        due("high numbers", x.takes(0, 0, 50, 1), 6);
        due("high numbers", in(x, 1), "7:64,72,80,96");
        tell(x, 0, "family 6;");
        due("no sets", x.takes(0, 0, 1, 1), 0);
        due("no sets", in(x, 1), "6:");
        due("to", x.takes(0, 0, 5, 3), -2);
        due("what", x.takes(0, 4, 5, 1), -2);
        due("tries", x.takes(0, 0, 0, 1), -2);
        due("tries", x.takes(0, 0, 50001, 1), -2);
        x.drops(2);
        due("nothing", x.takes(2, 0, 5, 1), -2);
    }

    private static void p26() {
        MeetingSets x = of("family 5:01,12,23,34;");
        due("cover", x.cover(0), 10);
        tell(x, 0, FANO);
        due("a line", x.cover(0), 7);
        tell(x, 0, "family 4:03,13;");
        due("one point", x.cover(0), 8);
        tell(x, 0, "family 4:01,23;");
        due("the least number", x.cover(0), 5);
        tell(x, 0, "family 4;");
        due("no sets", x.cover(0), 0);
        tell(x, 0, "family 4:none,0;");
        due("none", x.cover(0), -1);
        due("nothing", x.cover(1), -2);
        due("no slot", x.cover(-1), -2);
    }

    private static void p27() {
        MeetingSets x = new MeetingSets();
        x.all(0, 5, 2, -1);
        due("twos of five", x.colours(0, 50000), 3);
        x.all(0, 7, 1, -1);
        due("ones of seven", x.colours(0, 50000), 7);
        x.all(0, 6, 3, -1);
        due("threes of six", x.colours(0, 50000), 2);
        tell(x, 0, FANO);
        due("lines", x.colours(0, 7), 1);
        due("one too few", x.colours(0, 6), -3);
        tell(x, 0, "family 2:0,1;");
        // for 1 part one try, for 2 parts two
        due("tries are for each c", x.colours(0, 2), 2);
        due("too few", x.colours(0, 1), -3);
        tell(x, 0, "family 3:0,1,2;");
        // the first set can be in the first part alone: for 2 parts there are two tries
        due("for 3 parts three", x.colours(0, 3), 3);
        tell(x, 0, "family 2;");
        due("no sets", x.colours(0, 1), 0);
        tell(x, 0, "family 2:none,0,1;");
        due("none", x.colours(0, 1), -6);
        due("tries", x.colours(0, 0), -2);
        due("tries", x.colours(0, 50001), -2);
        due("nothing", x.colours(1, 5), -2);
    }

    private static void p28() {
        MeetingSets x = of("family 4:0,1,01,2,23;");
        // 0 in part 0, 1 in 1, 01 in 0 (it meets 0), 2 in 2, 23 in 2
        int[] want = {0, 1, 0, 2, 2};
        for (int k = 0; k < 5; k++) {
            due("colour " + k, x.colour(0, 3, 5, k), want[k]);
            due("no way", x.colour(0, 2, 50, k), -1);
            due("more parts", x.colour(0, 7, 5, k), want[k]);
            due("TOO LONG", x.colour(0, 3, 4, k), -3);
        }
        tell(x, 1, "family 4:01,12,13,03;");
        // 01, 12, 03, 13 by numbers 3 6 9 10: 01 and 12 in 0; 03 is apart from 12: in 1; 13 meets all: in 0
        int[] path = {0, 0, 1, 0};
        for (int k = 0; k < 4; k++) {
            due("path " + k, x.colour(1, 2, 4, k), path[k]);
        }
        due("not so many", x.colour(0, 3, 5, 5), -1);
        tell(x, 1, "family 3:0,1,2;");
        due("no way by two tries", x.colour(1, 2, 2, 0), -1);
        due("TOO LONG", x.colour(1, 2, 1, 0), -3);
        due("not so many ahead of TOO LONG", x.colour(0, 3, 1, 5), -1);
        tell(x, 2, "family 4:none,0;");
        due("none ahead of not so many", x.colour(2, 3, 5, 9), -6);
        due("k ahead of none", x.colour(2, 3, 5, -1), -2);
        due("c", x.colour(0, 0, 5, 0), -2);
        due("c", x.colour(0, 8, 5, 0), -2);
        due("tries", x.colour(0, 3, 0, 0), -2);
        due("tries", x.colour(0, 3, 50001, 0), -2);
        due("no slot", x.colour(3, 3, 5, 0), -2);
        tell(x, 2, "family 4;");
        due("no sets", x.colour(2, 1, 5, 0), -1);
        backwards(x);
    }

    /** Sets where the first try goes wrong, so that the search must go back. */
    private static void backwards(MeetingSets x) {
        tell(x, 2, "family 5:01,12,34,023;");
        // by numbers 3 (01) 6 (12) 13 (023) 24 (34): 01, 12 in 0; 023 meets both: in 0; 34 apart from 01: in 1
        due("01", x.colour(2, 2, 4, 0), 0);
        due("023", x.colour(2, 2, 4, 2), 0);
        due("34", x.colour(2, 2, 4, 3), 1);
        // by numbers 3 (01) 6 (12) 9 (03) 20 (24): 0, 0, 1, then 24: apart from 01 and 03; back: 03 has no
        // other; 12 goes to 1: then 03 in 0; 24 in 1: 01 03 | 12 24, after 2 + 1 + 1 + 1 + 1 tries
        tell(x, 2, "family 5:01,12,03,24;");
        int[] want = {0, 1, 0, 1};
        for (int k = 0; k < 4; k++) {
            due("back " + k, x.colour(2, 2, 6, k), want[k]);
            due("one too few " + k, x.colour(2, 2, 5, k), -3);
        }
    }

    private static void p29() {
        MeetingSets x = of("family 5:01,23,34,04,12,024;");
        due("one step", x.steps(0, 3, 12), 1);
        due("itself", x.steps(0, 3, 3), 0);
        // 01 - 23 - 04 - 12 - 34 - 01: round of five
        due("two steps", x.steps(0, 3, 17), 2);
        due("two steps", x.steps(0, 3, 6), 2);
        due("no way", x.steps(0, 3, 21), -1);
        due("no way", x.steps(0, 21, 3), -1);
        due("not in it", x.steps(0, 3, 5), -6);
        due("not in it", x.steps(0, 5, 3), -6);
        due("not in it", x.steps(0, 5, 5), -6);
        due("no set", x.steps(0, 3, 32), -2);
        due("no set", x.steps(0, -1, 3), -2);
        due("-2 ahead of -6", x.steps(0, 5, 32), -2);
        due("nothing", x.steps(1, 0, 0), -2);
        tell(x, 1, "family 7:0,16,0256,none,34;");
        due("over none", x.steps(1, 66, 101), 2);
        due("none", x.steps(1, 0, 0), 0);
        tell(x, 1, "family 5:0,1234,01;");
        due("no way", x.steps(1, 1, 3), -1);
        tell(x, 1, "family 6:01,23,03,14,025;");
        // 01 - 23 - 14 - 025, and 23 - 14, 03 - 14, 01 apart from 23 alone
        due("three steps", x.steps(1, 3, 37), 3);
        due("back", x.steps(1, 37, 3), 3);
    }

    // ---- rounds, sums, shattered

    private static void p30() {
        MeetingSets x = new MeetingSets();
        x.all(0, 5, 2, -1);
        for (int round = 0; round < 24; round++) {
            due("twos of five, " + round, x.arcs(0, round), 5);
        }
        tell(x, 0, "family 4:none,0123,03,01,12,23,02,13;");
        // round 0 is 3 0 1 2, round 1 is 3 0 2 1
        due("round 0", x.arcs(0, 0), 6);
        due("round 1", x.arcs(0, 1), 6);
        tell(x, 0, "family 4:03,02,013;");
        due("round 0", x.arcs(0, 0), 2);
        due("round 1", x.arcs(0, 1), 3);
        due("round 5 is 3 2 1 0", x.arcs(0, 5), 2);
        due("no round", x.arcs(0, 6), -2);
        due("no round", x.arcs(0, -1), -2);
        due("nothing", x.arcs(1, 0), -2);
        tell(x, 1, "family 1:none,0;");
        due("one point", x.arcs(1, 0), 2);
        due("one point", x.arcs(1, 1), -2);
        tell(x, 1, "family 7:0246,135;");
        // round 719 is 6 5 4 3 2 1 0
        due("last round", x.arcs(1, 719), 0);
        due("no round", x.arcs(1, 720), -2);
    }

    private static String roundOf(MeetingSets x, int n, int round) {
        StringBuilder text = new StringBuilder();
        for (int i = 0; i < n; i++) {
            text.append(x.around(n, round, i));
        }
        return text.toString();
    }

    private static void p31() {
        MeetingSets x = new MeetingSets();
        due("1 0", roundOf(x, 1, 0), "0");
        due("2 0", roundOf(x, 2, 0), "10");
        due("3 1", roundOf(x, 3, 1), "210");
        due("4 0", roundOf(x, 4, 0), "3012");
        due("4 1", roundOf(x, 4, 1), "3021");
        due("4 2", roundOf(x, 4, 2), "3102");
        due("4 5", roundOf(x, 4, 5), "3210");
        due("7 0", roundOf(x, 7, 0), "6012345");
        due("7 100", roundOf(x, 7, 100), "6051423");
        due("7 719", roundOf(x, 7, 719), "6543210");
        due("n", x.around(0, 0, 0), -2);
        due("n", x.around(8, 0, 0), -2);
        due("round", x.around(7, 720, 0), -2);
        due("round", x.around(7, -1, 0), -2);
        due("round", x.around(1, 1, 0), -2);
        due("i", x.around(4, 0, 4), -2);
        due("i", x.around(4, 0, -1), -2);
    }

    private static void p32() {
        MeetingSets x = new MeetingSets();
        due("none", x.rounds(5, 0), 24);
        due("all", x.rounds(5, 31), 24);
        due("one", x.rounds(5, 4), 24);
        due("two", x.rounds(5, 5), 12);
        due("three", x.rounds(7, 41), 144);
        due("one point", x.rounds(1, 0), 1);
        due("one point", x.rounds(1, 1), 1);
        due("two points", x.rounds(2, 2), 1);
        due("n", x.rounds(0, 0), -2);
        due("n", x.rounds(8, 0), -2);
        due("set", x.rounds(5, 32), -2);
        due("set", x.rounds(5, -1), -2);
    }

    private static void p33() {
        MeetingSets x = of("family 4:0,12,13,none;");
        // 1/4 + 1/6 + 1/6 + 1
        due("above", x.sum(0, 0), 19);
        due("below", x.sum(0, 1), 12);
        x.all(0, 7, 3, -1);
        due("a level", x.sum(0, 0), 1);
        due("a level", x.sum(0, 1), 1);
        tell(x, 0, "family 7;");
        due("no sets", x.sum(0, 0), 0);
        due("no sets", x.sum(0, 1), 1);
        tell(x, 0, "family 7:0,01,012;");
        // 1/7 + 1/21 + 1/35 = 15/105 + 5/105 + 3/105
        due("above", x.sum(0, 0), 23);
        due("below", x.sum(0, 1), 105);
        tell(x, 0, "family 7:0123456,012345,none;");
        due("above", x.sum(0, 0), 15);
        due("below", x.sum(0, 1), 7);
        due("what", x.sum(0, 2), -2);
        due("what", x.sum(0, -1), -2);
        due("nothing", x.sum(1, 0), -2);
    }

    private static void p34() {
        MeetingSets x = of("family 3:none,0,1,01,2;");
        due("01", x.shattered(0, 3), 1);
        due("02", x.shattered(0, 5), 0);
        due("2", x.shattered(0, 4), 1);
        due("none", x.shattered(0, 0), 1);
        due("012", x.shattered(0, 7), 0);
        due("no set", x.shattered(0, 8), -2);
        due("no set", x.shattered(0, -1), -2);
        tell(x, 1, "family 3;");
        due("no sets", x.shattered(1, 0), 0);
        due("nothing", x.shattered(2, 0), -2);
        tell(x, 1, "family 7:6,5,56,4;");
        due("56", x.shattered(1, 96), 1);
        due("46", x.shattered(1, 80), 0);
    }

    private static void p35() {
        MeetingSets x = of("family 3:none,0,1,01,2;");
        // none, 0, 1, 2, 01
        due("how many", x.shatters(0, 0), 5);
        due("greatest", x.shatters(0, 1), 2);
        tell(x, 0, "family 3:12;");
        due("one set", x.shatters(0, 0), 1);
        due("one set", x.shatters(0, 1), 0);
        tell(x, 0, "family 3;");
        due("no sets", x.shatters(0, 0), 0);
        due("no sets", x.shatters(0, 1), -1);
        tell(x, 0, "family 2:none,0,1,01;");
        due("all", x.shatters(0, 0), 4);
        due("all", x.shatters(0, 1), 2);
        due("what", x.shatters(0, 2), -2);
        due("what", x.shatters(0, -1), -2);
        due("nothing", x.shatters(1, 0), -2);
    }

    private static void p36() {
        MeetingSets x = of("family 7:01,02,06,3,12,45;");
        // 3 is 01, 5 02, 6 12, 8 3, 48 45, 65 06: 01 02 06 have 0 in common, the others are three that are apart
        due("how many", x.flower(0, -1), 7);
        due("0", x.flower(0, 0), 3005065);
        due("1", x.flower(0, 1), 3008048);
        due("2", x.flower(0, 2), 5008048);
        due("3", x.flower(0, 3), 6008048);
        due("4", x.flower(0, 4), 6008065);
        due("5", x.flower(0, 5), 6048065);
        due("6", x.flower(0, 6), 8048065);
        due("not so many", x.flower(0, 7), -1);
        due("not so many", x.flower(0, MAX), -1);
        due("k", x.flower(0, -2), -2);
        due("nothing", x.flower(1, -1), -2);
        x.all(1, 5, 2, -1);
        due("twos of five", x.flower(1, -1), 20);
        tell(x, 1, "family 3:0,1;");
        due("two sets", x.flower(1, -1), 0);
        due("two sets", x.flower(1, 0), -1);
        tell(x, 1, "family 3:none,0,01,1;");
        due("with none", x.flower(1, -1), 1);
        due("with none", x.flower(1, 0), 1002);
        tell(x, 1, "family 7:6,56,46,012345,016;");
        // 63 is 012345, 64 6, 67 016, 80 46, 96 56: those with 6 have it in common alone
        due("high numbers", x.flower(1, -1), 4);
        due("high numbers", x.flower(1, 0), 64067080);
        due("high numbers", x.flower(1, 1), 64067096);
        due("high numbers", x.flower(1, 2), 64080096);
        due("high numbers", x.flower(1, 3), 67080096);
        tell(x, 1, "family 7:01234,5,6,012345,56;");
        // 31 is 01234, 32 5, 63 012345, 64 6, 96 56: 01234, 5 and 6 are apart
        due("high numbers", x.flower(1, -1), 2);
        due("high numbers", x.flower(1, 0), 31032064);
        // 5, 012345 and 56 have 5 in common
        due("high numbers", x.flower(1, 1), 32063096);
    }

    // ---- two families, namings

    private static void p37() {
        MeetingSets x = of("family 3:none,0,12;");
        tell(x, 1, "family 7:0,6,26;");
        // 0 meets 0; 12 meets 26
        due("meet", x.across(0, 1, 0), 2);
        due("apart", x.across(0, 1, 1), 7);
        due("both", x.across(0, 1, 2), 1);
        due("one or both", x.across(0, 1, 3), 5);
        due("meet", x.across(1, 0, 0), 2);
        // with itself: 0 0, 12 12 meet; the seven others are apart, none none, too
        due("one", x.across(0, 0, 0), 2);
        due("one", x.across(0, 0, 1), 7);
        due("one", x.across(0, 0, 2), 3);
        due("one", x.across(0, 0, 3), 3);
        due("what", x.across(0, 1, 4), -2);
        due("what", x.across(0, 1, -1), -2);
        due("nothing", x.across(0, 2, 0), -2);
        due("nothing", x.across(2, 0, 0), -2);
        due("no slot", x.across(0, 3, 0), -2);
    }

    private static void p38() {
        MeetingSets x = of("family 4:01,23;");
        int[] want = {0, 0, 4, 4, 1};
        for (int k = 0; k <= 4; k++) {
            due("level " + k, x.answers(0, k), want[k]);
        }
        due("level", x.answers(0, 5), -2);
        due("level", x.answers(0, -1), -2);
        due("nothing", x.answers(1, 0), -2);
        tell(x, 1, "family 4:none;");
        due("none", x.answers(1, 4), 0);
        tell(x, 1, "family 4;");
        due("no sets", x.answers(1, 0), 1);
        tell(x, 1, FANO);
        due("lines", x.answers(1, 3), 7);
        due("four points", x.answers(1, 4), 28);
    }

    private static void p39() {
        MeetingSets x = of("family 7:01,12,6;");
        tell(x, 1, "family 7:56,46,0;");
        due("like", x.alike(0, 1), 1);
        tell(x, 1, "family 7:56,34,0;");
        due("unlike", x.alike(0, 1), 0);
        tell(x, 1, "family 7:01,12;");
        due("fewer", x.alike(0, 1), 0);
        due("one", x.alike(0, 0), 1);
        tell(x, 1, "family 3:0;");
        tell(x, 2, "family 4:0;");
        due("unlike N", x.alike(1, 2), 0);
        tell(x, 1, "family 4:0,01,012;");
        tell(x, 2, "family 4:3,23,123;");
        due("by one naming alone", x.alike(1, 2), 1);
        tell(x, 1, "family 3:0;");
        tell(x, 2, "family 3:2;");
        due("like", x.alike(1, 2), 1);
        tell(x, 1, "family 6:012,345;");
        tell(x, 2, "family 6:024,135;");
        due("like", x.alike(1, 2), 1);
        // a round of six and two rounds of three have the same degrees
        tell(x, 1, "family 6:01,12,23,34,45,05;");
        tell(x, 2, "family 6:01,12,02,34,45,35;");
        due("same degrees", x.alike(1, 2), 0);
        x.drops(2);
        due("nothing", x.alike(0, 2), -2);
        due("nothing", x.alike(2, 0), -2);
        due("no slot", x.alike(0, 3), -2);
    }

    private static void p40() {
        MeetingSets x = of(FANO);
        due("lines", x.selves(0), 168);
        x.all(0, 5, 2, -1);
        due("twos of five", x.selves(0), 120);
        tell(x, 0, "family 6:01,12,23,34,45,05;");
        due("a round", x.selves(0), 12);
        tell(x, 0, "family 4:0,01,012,0123;");
        due("a chain", x.selves(0), 1);
        tell(x, 0, "family 7;");
        due("no sets", x.selves(0), 5040);
        tell(x, 0, "family 1:0;");
        due("one point", x.selves(0), 1);
        tell(x, 0, "family 2:0;");
        due("two points", x.selves(0), 1);
        due("nothing", x.selves(1), -2);
        due("no slot", x.selves(-1), -2);
    }

    // ---- acts

    private static void p41() {
        MeetingSets x = of("family 7:0;");
        due("adds", x.adds(0, 127), 2);
        due("adds", x.adds(0, 0), 3);
        due("adds", in(x, 0), "7:0,1,127");
        due("acts", x.count(1), 3);
        due("there", x.adds(0, 127), -5);
        tell(x, 1, "family 3:0;");
        due("beside another slot", x.adds(0, 64), 4);
        due("beside another slot", in(x, 0), "7:0,1,64,127");
        x.undo();
        x.undo();
        due("no act", x.count(1), 3);
        due("no set", x.adds(0, 128), -2);
        due("no set", x.adds(0, -1), -2);
        due("nothing", x.adds(1, 0), -2);
        due("no slot", x.adds(3, 0), -2);
    }

    private static void p42() {
        MeetingSets x = of("family 4:0,12,013,3;");
        int[] want = {4, 3, 1, 2, 15, 0, 3};
        for (int what = 0; what < 7; what++) {
            due("without 013, " + what, x.without(0, 11, what), want[what]);
        }
        due("stays", in(x, 0), "4:1,6,8,11");
        due("acts", x.count(1), 1);
        tell(x, 1, "family 4:12;");
        int[] empty = {4, 0, -1, -1, 0, 15, 0};
        for (int what = 0; what < 7; what++) {
            due("of no sets, " + what, x.without(1, 6, what), empty[what]);
        }
        due("has it not", x.without(0, 2, 0), -6);
        due("what ahead of -6", x.without(0, 2, 7), -2);
        due("what", x.without(0, 11, -1), -2);
        due("no set", x.without(0, 16, 0), -2);
        due("no set", x.without(0, -1, 0), -2);
        due("nothing", x.without(2, 0, 0), -2);
    }

    private static void p43() {
        MeetingSets x = of("family 7:none,0,0123456;");
        due("cuts", x.cuts(0, 127), 2);
        due("cuts", x.cuts(0, 0), 1);
        due("cuts", in(x, 0), "7:1");
        tell(x, 1, "family 7:6,56,5;");
        x.makes(0, 3, 2);
        due("cuts", x.cuts(1, 64), 2);
        due("cuts", x.cuts(1, 32), 1);
        due("cuts", in(x, 1), "7:96");
        for (int i = 0; i < 4; i++) {
            x.undo();
        }
        due("acts", x.count(1), 3);
        due("not there", x.cuts(0, 0), -6);
        due("no act", x.count(1), 3);
        due("the last", x.cuts(0, 1), 0);
        due("of no sets", in(x, 0), "7:");
        due("no set", x.cuts(0, 128), -2);
        due("no set", x.cuts(0, -1), -2);
        due("nothing", x.cuts(1, 0), -2);
    }

    private static void p44() {
        MeetingSets x = of("family 3:0;");
        due("drops", x.drops(0), 1);
        due("nothing", in(x, 0), "nothing");
        due("again", x.drops(0), 0);
        due("acts", x.count(1), 2);
        due("no slot", x.drops(3), -2);
        due("no slot", x.drops(-1), -2);
        tell(x, 0, "family 3;");
        due("of no sets", x.drops(0), 1);
    }

    private static void p45() {
        MeetingSets x = new MeetingSets();
        due("none", x.undo(), -1);
        String[] was = new String[14];
        for (int i = 0; i < 14; i++) {
            was[i] = in(x, 0);
            x.row(0, 5, 2, i % 10 + 1);
        }
        due("the latest ten", x.count(1), 10);
        for (int i = 13; i >= 4; i--) {
            due("undo " + i, x.undo(), i - 4);
            due("undo " + i, in(x, 0), was[i]);
        }
        due("none", x.undo(), -1);
        due("stays", in(x, 0), was[4]);
        undoEach();
    }

    /** Every kind of act, in other slots too, undone in turn. */
    private static void undoEach() {
        MeetingSets x = of("family 4:3,23,12,0;");
        x.tell(0);
        String[] was = new String[14];
        was[0] = in(x, 0) + " " + in(x, 1) + " " + in(x, 2);
        for (int kind = 0; kind < 13; kind++) {
            act(x, kind);
            was[kind + 1] = in(x, 0) + " " + in(x, 1) + " " + in(x, 2);
            due("act " + kind + " changes", was[kind].equals(was[kind + 1]) ? 1 : 0, 0);
        }
        for (int left = 9; left >= 0; left--) {
            due("undo", x.undo(), left);
            due("undo", in(x, 0) + " " + in(x, 1) + " " + in(x, 2), was[left + 3]);
        }
        due("OUT stays", out(x), "family 4:0,12,3,23;");
        for (int kind = 0; kind < 13; kind++) {
            MeetingSets y = of("family 4:3,23,12,0;");
            for (int earlier = 0; earlier <= kind; earlier++) {
                act(y, earlier);
            }
            y.undo();
            due("undo " + kind, in(y, 0) + " " + in(y, 1) + " " + in(y, 2), was[kind]);
        }
    }

    private static void act(MeetingSets x, int kind) {
        switch (kind) {
            case 0: tell(x, 1, "family 4:23,13,2;"); break;
            case 1: x.makes(0, 2, 2); break;
            case 2: x.row(2, 4, 2, 5); break;
            case 3: x.all(2, 4, 3, -1); break;
            case 4: x.shift(0, 0, 3); break;
            case 5: x.settles(1); break;
            case 6: x.takes(0, 2, 500, 2); break;
            case 7: x.part(0, 1, 1, 2); break;
            case 8: x.trace(0, 6, 2); break;
            case 9: x.joint(0, 1, 0, 2); break;
            case 10: x.adds(0, 15); break;
            case 11: x.cuts(0, 15); break;
            default: x.drops(1); break;
        }
    }

    private static void p46() {
        MeetingSets x = of("family 4:210,none,3;");
        due("bytes", x.tell(0), 20);
        due("text", out(x), "family 4:none,012,3;");
        tell(x, 1, "family 7;");
        due("bytes", x.tell(1), 9);
        due("text", out(x), "family 7;");
        x.row(1, 7, 7, 1);
        x.makes(1, 2, 1);
        due("all sets", x.look(1, 1), 128);
        due("bytes", x.tell(1), 589);
        StringBuilder all = new StringBuilder("family 7:none");
        for (int s = 1; s < 128; s++) {
            all.append(',');
            for (int p = 0; p < 7; p++) {
                all.append((s >> p & 1) == 1 ? String.valueOf(p) : "");
            }
        }
        all.append(';');
        for (int i = 1; i < 589; i += 2) {
            due("byte " + i, x.octet(i), all.charAt(i));
        }
        MeetingSets y = new MeetingSets();
        due("all sets", tell(y, 2, all.toString()), 128);
        y.tell(2);
        for (int i = 0; i < 589; i += 2) {
            due("byte " + i, y.octet(i), all.charAt(i));
        }
        due("nothing", new MeetingSets().tell(0), -2);
        due("no slot", x.tell(3), -2);
    }

    private static void p47() {
        MeetingSets x = of("family 3:0;");
        due("ahead of any", x.octet(0), -1);
        x.tell(0);
        due("0", x.octet(0), 'f');
        due("10", x.octet(10), ';');
        due("beyond", x.octet(11), -1);
        due("below 0", x.octet(-1), -1);
        due("far", x.octet(MAX), -1);
        x.adds(0, 6);
        x.drops(0);
        due("refused", x.tell(0), -2);
        due("stays", out(x), "family 3:0;");
        due("bytes", x.count(3), 11);
        x.undo();
        x.tell(0);
        due("told anew", out(x), "family 3:0,12;");
        x.undo();
        x.tell(0);
        due("shorter", out(x), "family 3:0;");
        due("beyond", x.octet(11), -1);
    }

    // ---- the rest

    private static void p48() {
        MeetingSets x = of("family 4:none,0,01,123,0123;");
        int[] want = {1, 1, 2, 1, 0};
        // with 012: none 0, 0 1, 01 2, 123 2, 0123 3
        for (int k = 0; k <= 4; k++) {
            due("with 012, " + k, x.common(0, 7, k), want[k]);
        }
        due("with none", x.common(0, 0, 0), 5);
        due("with all", x.common(0, 15, 4), 1);
        due("k", x.common(0, 7, 5), -2);
        due("k", x.common(0, 7, -1), -2);
        due("no set", x.common(0, 16, 0), -2);
        due("no set", x.common(0, -1, 0), -2);
        due("nothing", x.common(1, 0, 0), -2);
    }

    private static void p49() {
        MeetingSets x = of("family 2:none,1;");
        due("0", x.lacks(0, 0), 1);
        due("1", x.lacks(0, 1), 3);
        due("not so many", x.lacks(0, 2), -1);
        due("not so many", x.lacks(0, MAX), -1);
        due("k", x.lacks(0, -1), -2);
        due("nothing", x.lacks(1, 0), -2);
        tell(x, 1, "family 7:6;");
        due("126", x.lacks(1, 126), 127);
        due("64", x.lacks(1, 64), 65);
        due("not so many", x.lacks(1, 127), -1);
        tell(x, 1, "family 6;");
        due("63", x.lacks(1, 63), 63);
        due("64", x.lacks(1, 64), -1);
        tell(x, 1, "family 1:0,none;");
        due("all there", x.lacks(1, 0), -1);
    }

    private static void p50() {
        MeetingSets x = of("family 3:12,2;");
        due("moved", x.moved(0), 3);
        tell(x, 0, "family 7:6;");
        due("6", x.moved(0), 6);
        tell(x, 0, "family 4:1,0,23;");
        // 0 2, 0 3, 1 2, 1 3 change 23
        due("1,0,23", x.moved(0), 4);
        tell(x, 0, "family 3:0,01;");
        due("shifted", x.moved(0), 0);
        tell(x, 0, "family 1:0;");
        due("one point", x.moved(0), 0);
        due("nothing", x.moved(1), -2);
        due("no slot", x.moved(3), -2);
    }

    private static void p51() {
        MeetingSets x = of("family 7:0,06,016,6,2,none;");
        due("both", x.together(0, 0, 6, 0), 2);
        due("just one", x.together(0, 0, 6, 1), 2);
        due("just one", x.together(0, 6, 2, 1), 4);
        due("the same", x.together(0, 6, 6, 0), 3);
        due("the same", x.together(0, 6, 6, 1), 0);
        due("no point", x.together(0, 7, 0, 0), -2);
        due("no point", x.together(0, 0, 7, 0), -2);
        due("no point", x.together(0, -1, 0, 0), -2);
        due("no point", x.together(0, 0, -1, 0), -2);
        due("what", x.together(0, 0, 0, 2), -2);
        due("what", x.together(0, 0, 0, -1), -2);
        due("nothing", x.together(1, 0, 0, 0), -2);
    }

    private static void p52() {
        MeetingSets x = of("family 4:0,01,12,13;");
        due("half", x.half(0), 3);
        tell(x, 0, "family 4:0,01,1;");
        due("two of three", x.half(0), 3);
        tell(x, 0, "family 4:0,1,2;");
        due("one of three", x.half(0), 0);
        tell(x, 0, "family 7:6,56;");
        due("one of two", x.half(0), 96);
        tell(x, 0, "family 4;");
        due("of no sets", x.half(0), 15);
        due("nothing", x.half(1), -2);
        due("no slot", x.half(3), -2);
    }

    private static void p53() {
        MeetingSets x = of("family 5;");
        due("01", x.next(0, 3), 5);
        due("12", x.next(0, 6), 9);
        due("012", x.next(0, 7), 11);
        due("34", x.next(0, 24), -1);
        due("none", x.next(0, 0), -1);
        due("all", x.next(0, 31), -1);
        due("no set", x.next(0, 32), -2);
        due("no set", x.next(0, -1), -2);
        due("nothing", x.next(1, 0), -2);
        tell(x, 1, "family 7:0;");
        due("345", x.next(1, 56), 67);
        due("5", x.next(1, 32), 64);
        due("6", x.next(1, 64), -1);
    }

    private static void p54() {
        MeetingSets x = of("family 7:none,0,01,16,23;");
        // 0, 1, 3, 12, 66
        int[] want = {1, 3, 12, 66, 1012, 1066, 3012, 12066};
        due("how many", x.apart(0, -1), want.length);
        for (int k = 0; k < want.length; k++) {
            due("apart " + k, x.apart(0, k), want[k]);
        }
        due("not so many", x.apart(0, 8), -1);
        due("not so many", x.apart(0, MAX), -1);
        due("k", x.apart(0, -2), -2);
        due("nothing", x.apart(1, -1), -2);
        tell(x, 1, FANO);
        due("lines", x.apart(1, -1), 0);
        due("lines", x.apart(1, 0), -1);
    }

    private static void p55() {
        MeetingSets x = of("family 3:01,2;");
        int[] want = {5, 6, 7};
        due("how many", x.covers(0, -1), 3);
        for (int k = 0; k < 3; k++) {
            due("covers " + k, x.covers(0, k), want[k]);
        }
        due("not so many", x.covers(0, 3), -1);
        due("not so many", x.covers(0, MAX), -1);
        due("k", x.covers(0, -2), -2);
        due("nothing", x.covers(1, -1), -2);
        tell(x, 1, "family 7;");
        due("of no sets", x.covers(1, -1), 128);
        due("of no sets", x.covers(1, 0), 0);
        tell(x, 1, "family 6;");
        due("of six points", x.covers(1, -1), 64);
        tell(x, 1, "family 1;");
        due("of one point", x.covers(1, -1), 2);
        tell(x, 1, "family 7:none,6;");
        due("none", x.covers(1, -1), 0);
        tell(x, 1, "family 7:6;");
        due("6", x.covers(1, -1), 64);
        due("6", x.covers(1, 63), 127);
    }

    private static void p56() {
        MeetingSets x = of("family 7:none,0,12,012,0123456,5;");
        due("none", x.height(0, 0), 1);
        due("0", x.height(0, 1), 2);
        due("12", x.height(0, 6), 2);
        due("012", x.height(0, 7), 3);
        due("5", x.height(0, 32), 2);
        due("all", x.height(0, 127), 4);
        due("not in it", x.height(0, 3), -6);
        due("no set", x.height(0, 128), -2);
        due("no set", x.height(0, -1), -2);
        due("nothing", x.height(1, 0), -2);
        x.row(1, 7, 7, 1);
        x.makes(1, 2, 1);
        due("eight", x.height(1, 127), 8);
    }

    private static void p57() {
        MeetingSets x = of("family 4:01,12,3,013;");
        due("trace", x.trace(0, 3, 1), 3);
        due("trace", in(x, 1), "4:0,2,3");
        due("with none", x.trace(0, 0, 1), 1);
        due("with none", in(x, 1), "4:0");
        due("with all", x.trace(0, 15, 2), 4);
        due("with all", in(x, 2), "4:3,6,8,11");
        due("into itself", x.trace(0, 9, 0), 4);
        due("into itself", in(x, 0), "4:0,1,8,9");
        due("no set", x.trace(0, 16, 1), -2);
        due("no set", x.trace(0, -1, 1), -2);
        due("to", x.trace(0, 0, 3), -2);
        x.drops(2);
        due("nothing", x.trace(2, 0, 1), -2);
        tell(x, 2, "family 4;");
        due("no sets", x.trace(2, 3, 1), 0);
        due("no sets", in(x, 1), "4:");
    }

    private static void p58() {
        MeetingSets x = of("family 4:none,0,12;");
        tell(x, 1, "family 4:0,3;");
        due("one or both", x.joint(0, 1, 0, 2), 4);
        due("one or both", in(x, 2), "4:0,1,6,8");
        due("both", x.joint(0, 1, 1, 2), 1);
        due("both", in(x, 2), "4:1");
        due("the first alone", x.joint(0, 1, 2, 2), 2);
        due("the first alone", in(x, 2), "4:0,6");
        due("the first alone", x.joint(1, 0, 2, 2), 1);
        due("the first alone", in(x, 2), "4:8");
        due("together", x.joint(0, 1, 3, 2), 5);
        due("together", in(x, 2), "4:1,7,8,9,14");
        due("one", x.joint(0, 0, 3, 2), 4);
        due("one", in(x, 2), "4:0,1,6,7");
        due("into the first", x.joint(0, 1, 0, 0), 4);
        due("into the other", x.joint(0, 1, 2, 1), 2);
        due("into the other", in(x, 1), "4:0,6");
        tell(x, 2, "family 5:0;");
        due("not one N", x.joint(0, 2, 0, 1), -6);
        due("what ahead of -6", x.joint(0, 2, 4, 1), -2);
        due("what", x.joint(0, 1, -1, 1), -2);
        due("to", x.joint(0, 2, 0, 3), -2);
        x.drops(2);
        due("nothing", x.joint(0, 2, 0, 1), -2);
        due("nothing", x.joint(2, 0, 0, 1), -2);
        tell(x, 2, "family 4;");
        due("no sets", x.joint(0, 2, 3, 1), 0);
        due("no sets", in(x, 1), "4:");
    }

    private static void p59() {
        MeetingSets x = new MeetingSets();
        int[] seen = new int[8];
        for (int set = 0; set < 128; set++) {
            int points = Integer.toBinaryString(set).replace("0", "").length();
            due("rank " + set, x.rank(set), seen[points]++);
        }
        due("no number", x.rank(128), -2);
        due("no number", x.rank(-1), -2);
        due("no number", x.rank(MAX), -2);
    }

    private static void p60() {
        MeetingSets x = new MeetingSets();
        int[] sizes = {1, 7, 21, 35, 35, 21, 7, 1};
        for (int k = 0; k <= 7; k++) {
            for (int i = 0; i < sizes[k]; i++) {
                due("ranked " + k + " " + i, x.rank(x.ranked(k, i)), i);
                due("level", Integer.toBinaryString(x.ranked(k, i)).replace("0", "").length(), k);
            }
            due("not so many", x.ranked(k, sizes[k]), -1);
            due("not so many", x.ranked(k, MAX), -1);
            due("i", x.ranked(k, -1), -2);
        }
        due("3 5", x.ranked(3, 5), 21);
        due("k", x.ranked(8, 0), -2);
        due("k", x.ranked(-1, 0), -2);
    }

    private static void run(int number, Runnable test) {
        promise = number;
        test.run();
    }

    public static void main(String[] args) {
        Runnable[] tests = {
            PromiseTest::p1, PromiseTest::p2, PromiseTest::p3, PromiseTest::p4, PromiseTest::p5, PromiseTest::p6,
            PromiseTest::p7, PromiseTest::p8, PromiseTest::p9, PromiseTest::p10, PromiseTest::p11,
            PromiseTest::p12, PromiseTest::p13, PromiseTest::p14, PromiseTest::p15, PromiseTest::p16,
            PromiseTest::p17, PromiseTest::p18, PromiseTest::p19, PromiseTest::p20, PromiseTest::p21,
            PromiseTest::p22, PromiseTest::p23, PromiseTest::p24, PromiseTest::p25, PromiseTest::p26,
            PromiseTest::p27, PromiseTest::p28, PromiseTest::p29, PromiseTest::p30, PromiseTest::p31,
            PromiseTest::p32, PromiseTest::p33, PromiseTest::p34, PromiseTest::p35, PromiseTest::p36,
            PromiseTest::p37, PromiseTest::p38, PromiseTest::p39, PromiseTest::p40, PromiseTest::p41,
            PromiseTest::p42, PromiseTest::p43, PromiseTest::p44, PromiseTest::p45, PromiseTest::p46,
            PromiseTest::p47, PromiseTest::p48, PromiseTest::p49, PromiseTest::p50, PromiseTest::p51,
            PromiseTest::p52, PromiseTest::p53, PromiseTest::p54, PromiseTest::p55, PromiseTest::p56,
            PromiseTest::p57, PromiseTest::p58, PromiseTest::p59, PromiseTest::p60};
        for (int i = 0; i < tests.length; i++) {
            run(i + 1, tests[i]);
        }
        System.out.println(tests.length + " promises, " + asked + " answers, " + wrong + " not as due");
        if (wrong != 0) {
            System.exit(1);
        }
    }
}
