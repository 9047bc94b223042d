/** Promises 1 to 5: a new object, feed, text, fault, named; and each kind of FAULT. */
public final class ReadingTests {
    private static final Checks C = new Checks();

    public static void main(String[] args) {
        newObject();
        feed();
        text();
        textThatIsRefused();
        named();
        rightTexts();
        faultsOfTokens();
        faultsOfLaws();
        faultsOfTooMuch();
        faultsOfKnots();
        faultsOfTellingTwiceOrNotAhead();
        fullest();
        cutShort();
        C.end("ReadingTests");
    }

    private static void newObject() {
        BellPulls x = new BellPulls();
        for (int what = 0; what <= 14; what++) {
            C.due("new count(" + what + ")", x.count(what), 0);
        }
        C.due("new fault(0)", x.fault(0), 0);
        C.due("new fault(1)", x.fault(1), -1);
        C.due("new named", x.named(0, Checks.letters("a")), -1);
        C.due("new named 0", x.named(1, 0), -1);
        C.due("new text(1)", x.text(1), -2);
        C.due("new back", x.back(), -1);
        C.due("new undo", x.undo(), -1);
        C.due("new go", x.go(200), 200);
    }

    private static void feed() {
        BellPulls x = new BellPulls();
        for (int i = 1; i <= 35; i++) {
            C.due("feed " + i, x.feed(0x20202020, 0x20202020, 0x20202020, 0x20202020, 0x20202020), 20 * i);
        }
        C.due("feed beyond 700", x.feed(-1, -1, -1, -1, -1), -1);
        C.due("none came", x.text(701), -2);
        C.due("all blanks", x.text(700), 0);
        C.due("empty then", x.feed(0x6c616d70, 0x20613b6c, 0x616d7020, 0x623b206c, 0x61200a20), 20);
        C.due("highest first", x.text(14), 2);
        C.due("highest first: a", x.named(0, Checks.letters("a")), 0);
        C.due("highest first: b", x.named(0, Checks.letters("b")), 1);
        x.feed(0x6c616d70, 0x20ff3b20, -1, -1, -1);
        C.due("a high byte", x.text(20), -1);
        C.due("a high byte's place", x.fault(1), 5);
    }

    private static void text() {
        BellPulls x = Checks.of(Checks.HOUSE);
        x.ring(0);
        x.tie(0, 4);
        x.go(3);
        x.note(0, 0, true);
        x.known(0);
        x.keep();
        x.ring(1);
        C.due("text", Checks.tell(x, "lamp a;lamp b;pull p 1 a;lit b;"), 4);
        int[] due = {2, 1, 0, 0, 0, 1, 1, 0, 0, 0, 0, 1, 0, 0, 0};
        for (int what = 0; what < due.length; what++) {
            C.due("count(" + what + ") of a new text", x.count(what), due[what]);
        }
        C.due("as told", x.pull(0, 3), 1);
        C.due("not worn", x.pull(0, 2), 0);
        C.due("no age", x.lamp(0, 2), 0);
        C.due("lit", x.evening(1), 2);
        C.due("no image", x.back(), -1);
        x.note(0, 0, true);
        C.due("all known", x.count(13), 1);
        C.due("a shorter text", Checks.tell(x, "lamp a;"), 1);
        C.due("no ties left over", x.count(11), 0);
        C.due("no law left over", Checks.tell(x, "pull p 1;law toll 5;"), 2);
        C.due("law", x.law(0, 0), 5);
        Checks.tell(x, "pull p 1;");
        C.due("no law", x.law(0, 0), Long.MIN_VALUE);
        C.due("no knots", x.count(3), 0);
    }

    private static void textThatIsRefused() {
        BellPulls x = Checks.of(Checks.HOUSE);
        x.go(1);
        x.keep();
        x.note(1, 1, true);
        x.note(1, 2, true);
        x.known(1);
        x.ring(1);
        x.feed(0x6c616d70, 0x20202020, 0x20202020, 0x20202020, 0x20202020);
        C.due("below 0", x.text(-1), -2);
        C.due("not so many", x.text(21), -2);
        C.due("no fault of these", x.fault(0), 0);
        C.due("no place of these", x.fault(1), -1);
        C.due("the tape stays", x.feed(0, 0, 0, 0, 0), 40);
        C.due("a fault", x.text(4), -1);
        C.due("its fault", x.fault(0), 1);
        C.due("its place", x.fault(1), 4);
        C.due("no such what", x.fault(2), -1);
        C.due("no such what", x.fault(-1), -1);
        C.due("empty then", x.feed(0, 0, 0, 0, 0), 20);
        C.due("not so many", x.text(40), -2);
        C.due("the fault stays", x.fault(0), 1);
        C.due("the place stays", x.fault(1), 4);
        int[] due = {5, 6, 3, 0, 1, 2, 2, 0, 0, 5, 0, 9, 2, 1, 1};
        for (int what = 0; what < due.length; what++) {
            C.due("count(" + what + ") stays", x.count(what), due[what]);
        }
        C.due("undo stays", x.undo(), 0);
        C.due("image stays", x.back(), 1);
        C.due("text(0)", x.text(0), 0);
        C.due("no fault", x.fault(0), 0);
        C.due("no place", x.fault(1), -1);
        C.due("no lamps", x.count(0), 0);
    }

    private static void named() {
        BellPulls x = Checks.of("lamp a;lamp zzzzzz;pull a 1;pull abc 2;pull zzzzzz 3;lamp abc;");
        C.due("lamp a", x.named(0, 1 << 25), 0);
        C.due("lamp zzzzzz", x.named(0, 0x35ad6b5a), 1);
        C.due("lamp abc", x.named(0, 1 << 25 | 2 << 20 | 3 << 15), 2);
        C.due("pull a", x.named(1, 1 << 25), 0);
        C.due("pull abc", x.named(1, 1 << 25 | 2 << 20 | 3 << 15), 1);
        C.due("pull zzzzzz", x.named(1, 0x35ad6b5a), 2);
        C.due("lowest", x.named(0, 1), -1);
        C.due("ab", x.named(1, 1 << 25 | 2 << 20), -1);
        C.due("none", x.named(0, 0), -1);
        C.due("below 0", x.named(0, -1), -1);
        C.due("what 2", x.named(2, 1 << 25), -1);
        C.due("what -1", x.named(-1, 1 << 25), -1);
    }

    private static void right(String text, int lines) {
        BellPulls x = new BellPulls();
        C.due("lines of " + text, Checks.tell(x, text), lines);
        C.due("fault of " + text, x.fault(0), 0);
        C.due("place of " + text, x.fault(1), -1);
    }

    private static void wrong(String text, int fault, int place) {
        BellPulls x = new BellPulls();
        C.due("lines of " + text, Checks.tell(x, text), -1);
        C.due("fault of " + text, x.fault(0), fault);
        C.due("place of " + text, x.fault(1), place);
    }

    private static void rightTexts() {
        right("", 0);
        right(" \n ", 0);
        right("lamp abcdef;", 1);
        right("\nlamp\na\n;\n", 1);
        right("lamp a;pull p1a;", 2);
        right("lamp a;pull a 1 a;lit a;ring a 0;ring a 0;mend 5;mend 5;burn 100;seed 99999;", 9);
        right("pull p 0000000000000000000000099;", 1);
        right("law toll 9999;law stick cost;law fate minute;", 3);
        right("law fate(1<2)<3;law stick 1<2and 2<3;law toll not not 1<2;", 3);
        right("law toll 1 <= 2 or 1 <> 2 or 1 >= 2 or 1 = 2 or 1 < 2 or 1 > 2;", 1);
        right("law toll ((((((((1))))))))+((((((((1))))))));", 1);
        right("law toll (1 < 2) + (2 < 3) < 4 and not (not 1);", 1);
        right("law fate cost + worn + shown + ties + out + age + minute;", 1);
    }

    private static void faultsOfTokens() {
        wrong("lamp abcdefg;", 1, 5);
        wrong("lamp minute;", 1, 5);
        wrong("lamp toll;", 1, 5);
        wrong("lamp or;", 1, 5);
        wrong("lamp A;", 1, 5);
        wrong("lamp a", 1, 6);
        wrong("lamp a  ", 1, 8);
        wrong("lamp a;lamp", 1, 11);
        wrong(";", 1, 0);
        wrong("lamp a;;", 1, 7);
        wrong("lamp a\nb;", 1, 7);
        wrong("lamp\ta;", 1, 4);
        wrong("lamp a1;", 1, 6);
        wrong("lampa;", 1, 0);
        wrong("abcdefgh;", 1, 0);
        wrong("toll 1;", 1, 0);
        wrong("7;", 1, 0);
        wrong("lamp \u00e9;", 1, 5);
        wrong("lamp \0;", 1, 5);
        wrong("lamp 99999999999;", 1, 5);
        wrong("pull p 1 lamp;", 1, 9);
        wrong("pull p 1 2;", 1, 9);
        wrong("pull p 1 abcdefg;", 1, 9);
        wrong("pull p a;", 1, 7);
        wrong("pull 1 p;", 1, 5);
        wrong("pull p 1", 1, 8);
        wrong("lamp a;lit 1;", 1, 11);
        wrong("lamp a;lit a a;", 1, 13);
        wrong("pull p 1;ring p;", 1, 15);
        wrong("pull p 1;ring p 1 1;", 1, 18);
        wrong("mend;", 1, 4);
        wrong("mend a;", 1, 5);
        wrong("burn;", 1, 4);
        wrong("seed", 1, 4);
        wrong("burn -1;", 1, 5);
    }

    private static void faultsOfLaws() {
        wrong("law", 1, 3);
        wrong("law toll", 1, 8);
        wrong("law toll 1", 1, 10);
        wrong("law cost 1;", 1, 4);
        wrong("law 1;", 1, 4);
        wrong("law toll 1 2;", 1, 11);
        wrong("law toll 1 < 2 < 3;", 1, 15);
        wrong("law toll not 1 < 2 = 1;", 1, 19);
        wrong("law toll (1 < 2 > 3);", 1, 16);
        wrong("law toll 1 < (2 < 3) < 4;", 1, 21);
        wrong("law toll 1 + not 1;", 1, 13);
        wrong("law toll 1 < not 1;", 1, 13);
        wrong("law toll 1 not 1;", 1, 11);
        wrong("law toll - 1;", 1, 9);
        wrong("law toll and 1;", 1, 9);
        wrong("law toll 1 +;", 1, 12);
        wrong("law toll not;", 1, 12);
        wrong("law toll ();", 1, 10);
        wrong("law toll (1;", 1, 11);
        wrong("law toll (1", 1, 11);
        wrong("law toll 1);", 1, 10);
        wrong("law toll 1 (2);", 1, 11);
        wrong("law toll 1 = < 2;", 1, 13);
        wrong("law toll 1 < = 2;", 1, 13);
        wrong("law toll 1 > = 2;", 1, 13);
        wrong("law toll 1 >< 2;", 1, 12);
        wrong("law toll 1 =< 2;", 1, 12);
        wrong("law toll 1 == 2;", 1, 12);
        wrong("law toll lamp;", 1, 9);
        wrong("law toll stick;", 1, 9);
        wrong("law toll a;", 1, 9);
        wrong("law toll costs;", 1, 9);
        wrong("law toll 1 & 2;", 1, 11);
    }

    private static void faultsOfTooMuch() {
        wrong("pull p 100;", 2, 7);
        wrong("pull p 99999999999999999999;", 2, 7);
        wrong("pull p 1;ring p 100;", 2, 16);
        wrong("mend 100;", 2, 5);
        wrong("burn 101;", 2, 5);
        wrong("seed 100000;", 2, 5);
        wrong("law toll 10000;", 2, 9);
        wrong("law toll 4294967297;", 2, 9);
        wrong("law toll 1 + (((((((((", 2, 21);
        wrong("law toll (1) + (((((((((", 2, 23);
        wrong(many("lamp ", ";", 14) + "lamp", 2, 14 * 7);
        wrong(many("pull ", " 1;", 10) + "pull p", 2, 10 * 9);
        wrong("pull p 1;" + "ring p 1;".repeat(14) + "ring x", 2, 15 * 9);
        wrong("mend 1;".repeat(4) + "mend 100;", 2, 28);
        right(many("lamp ", ";", 14) + many("pull ", " 1;", 10) + "ring a 1;".repeat(14) + "mend 1;".repeat(4), 42);
    }

    private static String many(String ahead, String behind, int many) {
        StringBuilder b = new StringBuilder();
        for (int i = 0; i < many; i++) {
            b.append(ahead).append((char) ('a' + i)).append(behind);
        }
        return b.toString();
    }

    private static void faultsOfKnots() {
        String full = "law toll not (1)" + "+1".repeat(31);
        right(full + ";", 1);
        BellPulls x = Checks.of(full + ";");
        C.due("64 knots", x.count(3), 64);
        C.due("their worth", Checks.of("pull p 1;" + full + ";").law(0, 0), 0);
        wrong(full + "+1;", 2, full.length());
        wrong(full + " and 1;", 2, full.length() + 1);
        wrong(full + "=1;", 2, full.length());
        wrong(full + " not;", 1, full.length() + 1);
        wrong(full + " 1;", 1, full.length() + 1);
        wrong(full + ";law stick 1;", 2, full.length() + 11);
        wrong(full + ";law stick cost;", 2, full.length() + 11);
        wrong(full + ";law stick not 1;", 2, full.length() + 11);
        wrong(full + ";law stick ((((((((1", 2, full.length() + 19);
        wrong(full + ";law stick *;", 1, full.length() + 11);
        right("law toll not 1" + "+1".repeat(30) + ";law stick 1;law fate 1;", 3);
        wrong("law toll 1" + "+1".repeat(30) + ";law stick 1+1;law fate 1;", 2, 94);
    }

    private static void faultsOfTellingTwiceOrNotAhead() {
        wrong("lamp a;lamp a", 3, 12);
        wrong("pull p 1;pull p", 3, 14);
        wrong("lamp a;pull p 1 a a;", 3, 18);
        wrong("lamp a;lit a;lit a;", 3, 17);
        wrong("burn 0;burn 0;", 3, 7);
        wrong("seed 0;seed", 3, 7);
        wrong("law fate 1;law fate", 3, 15);
        wrong("lit a;lamp a;", 4, 4);
        wrong("pull p 1 a;lamp a;", 4, 9);
        wrong("ring p 1;pull p 1;", 4, 5);
        wrong("lamp a;ring a 1;", 4, 12);
        wrong("pull p 1;lit p;", 4, 13);
        wrong("pull p 1 p;", 4, 9);
        wrong("lamp a;pull p 1 a b a;", 4, 18);
    }

    private static void fullest() {
        StringBuilder all = new StringBuilder(many("lamp ", ";", 14)).append("pull p 1");
        for (char c = 'a'; c < 'a' + 14; c++) {
            all.append(' ').append(c);
        }
        right(all + ";", 15);
        C.due("tied to all", Checks.of(all + ";").pull(0, 3), 16383);
        wrong(all + " a;", 3, 98 + 37);
        String nots = "law stick " + "not (".repeat(8) + "not ".repeat(55) + "1" + "))))))));";
        right(nots, 1);
        C.due("63 times not", Checks.of("pull p 1;" + nots).law(1, 0), 0);
        wrong(nots.replace("1))", "not 1))"), 2, nots.indexOf('1') + 4);
    }

    /** Bytes behind the first n are not looked at. */
    private static void cutShort() {
        String text = "law toll 1 <= 2;lamp ab;pull p 10;";
        int[][] due = {{12, 12}, {13, 13}, {15, 15}, {18, 16}, {20, 20}, {21, 21}, {22, 22}, {31, 31}, {32, 32}, {33, 33}};
        for (int[] one : due) {
            BellPulls x = new BellPulls();
            x.feed(0x6c617720, 0x746f6c6c, 0x2031203c, 0x3d20323b, 0x6c616d70);
            x.feed(0x2061623b, 0x70756c6c, 0x20702031, 0x303b2020, 0x20202020);
            C.due(text + " cut at " + one[0], x.text(one[0]), -1);
            C.due("fault", x.fault(0), 1);
            C.due("place, cut at " + one[0], x.fault(1), one[1]);
        }
        BellPulls y = new BellPulls();
        y.feed(0x6c616d70, 0x20613b6c, 0x616d7020, 0x623b206c, 0x61200a20);
        C.due("one line of two", y.text(7), 1);
        C.due("one lamp", y.count(0), 1);
    }
}
