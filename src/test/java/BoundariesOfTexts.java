import java.util.Arrays;

/** Boundary cases of what a TEXT may be (the first part of 'Terms') and of promises 1 to 5. */
final class BoundariesOfTexts {
    private static final String[] LANGUAGE = {"lamp", "pull", "lit", "ring", "mend", "burn", "seed", "law", "toll", "stick",
        "fate", "or", "and", "not", "cost", "worn", "shown", "ties", "out", "age", "minute"};
    private static final int BLANKS = 0x20202020;

    private final Boundaries b;

    BoundariesOfTexts(Boundaries b) {
        this.b = b;
    }

    void all() {
        words();
        linesOfText();
        laws();
        howMany();
        numbersTold();
        faults();
        faultsOfTooMuch();
        faultsOfTellingTwice();
        faultsOfNotTold();
        newObject();
        feed();
        text();
        textByText();
        textRefused();
        fault();
        named();
    }

    /** So many lines, of the names a, b and so on. */
    private static String many(String ahead, String behind, int many) {
        StringBuilder all = new StringBuilder();
        for (int i = 0; i < many; i++) {
            all.append(ahead).append((char) ('a' + i)).append(behind);
        }
        return all.toString();
    }

    private void value(String e, long due) {
        b.due(e, b.right("pull p 1;law toll " + e + ";", 2).law(0, 0), due);
    }

    private static boolean isOneOf(String word, String words) {
        return Arrays.asList(words.split(" ")).contains(word);
    }

    private void words() {
        b.at("Terms 1", "Words: small letters in a row", () -> {
            b.right("lamp az;lamp za;", 2);
            // What stands next to a and z, and great letters, are none.
            b.wrong("lamp `;", 1, 5);
            b.wrong("lamp {;", 1, 5);
            b.wrong("lamp A;", 1, 5);
            b.wrong("lamp Z;", 1, 5);
            b.wrong("lamp aA;", 1, 6);
            b.wrong("Lamp a;", 1, 0);
            b.wrong("lampa;", 1, 0);
            b.wrong("la mp a;", 1, 0);
        });
        b.at("Terms 1", "W: one of 1 .. 6 letters", () -> {
            b.right("lamp a;pull b 1 a;lit a;ring b 1;", 4);
            b.right("lamp abcdef;pull ghijkl 1 abcdef;lit abcdef;ring ghijkl 1;", 4);
            b.wrong("lamp ;", 1, 5);
            b.wrong("lamp abcdefg;", 1, 5);
            b.wrong("pull abcdefg 1;", 1, 5);
            b.wrong("lamp abcdef;pull p 1 abcdefg;", 1, 21);
            b.wrong("lamp abcdef;lit abcdefg;", 1, 16);
            b.wrong("pull abcdef 1;ring abcdefg 1;", 1, 19);
        });
        b.at("Terms 1", "none of those of the language", () -> {
            for (String word : LANGUAGE) {
                b.wrong("lamp " + word + ";", 1, 5);
                b.wrong("pull " + word + " 1;", 1, 5);
                b.wrong("pull p 1 " + word + ";", 1, 9);
                b.wrong("lit " + word + ";", 1, 4);
                b.wrong("ring " + word + " 1;", 1, 5);
                // A letter more makes it another word, if it isn't too long then.
                if (word.length() < 6) {
                    b.right("lamp " + word + "x;pull " + word + "x 1 " + word + "x;", 2);
                }
                b.right("lamp x" + word.substring(1) + ";", 1);
            }
        });
        b.at("Terms 1", "N: digits", () -> {
            b.due("the lowest and the highest digit", b.right("pull p 09;", 1).pull(0, 0), 9);
            b.due("noughts ahead", b.right("pull p 000000000000000000000000000000099;", 1).pull(0, 0), 99);
            b.due("nothing but noughts", b.right("pull p 0000000000000000;", 1).pull(0, 0), 0);
            b.wrong("pull p /;", 1, 7);
            b.wrong("pull p :;", 1, 7);
            b.wrong("pull p -1;", 1, 7);
            b.wrong("pull p +1;", 1, 7);
            b.wrong("pull p 1.5;", 1, 8);
            b.wrong("pull p 1 0;", 1, 9);
        });
        b.at("Terms 1", "Blanks 10, 32", () -> {
            b.right("\n lamp\n \na \n;\n", 1);
            b.due("none is needed where nothing runs together", b.right("pull p1;pull q2;", 2).pull(1, 0), 2);
            for (int sign : new int[] {0, 9, 11, 12, 13, 31, 33, 127, 128, 138, 160, 255}) {
                b.wrong("lamp " + (char) sign + "a;", 1, 5);
                b.wrong("lamp a;" + (char) sign, 1, 7);
            }
        });
    }

    private void linesOfText() {
        b.at("Terms 1", "A TEXT: { LINE ';' }", () -> {
            b.right("", 0);
            b.right(" ", 0);
            b.right("\n\n\n", 0);
            b.wrong(";", 1, 0);
            b.wrong("lamp a;;", 1, 7);
            b.wrong("lamp a;;lamp b;", 1, 7);
            b.wrong("lamp a", 1, 6);
            b.wrong("lamp a lamp b;", 1, 7);
            b.wrong("lamp a;lamp b", 1, 13);
        });
        b.at("Terms 1", "LINE: lamp W | pull W N { W } | lit W | ring W N | mend N | burn N | seed N | law LAW E", () -> {
            b.right("lamp a;pull p 1;pull q 1 a;lit a;ring p 1;mend 1;burn 1;seed 1;law toll 1;law stick 1;law fate 1;", 11);
            for (String word : LANGUAGE) {
                // Every word alone lacks what must come; those that begin no LINE can't stand there.
                boolean begins = isOneOf(word, "lamp pull lit ring mend burn seed law");
                b.wrong(word, 1, begins ? word.length() : 0);
            }
            b.wrong("pull p;", 1, 6);
            b.wrong("pull 1;", 1, 5);
            b.wrong("lamp a 1;", 1, 7);
            b.wrong("lamp a;lit a 1;", 1, 13);
            b.wrong("lit ;", 1, 4);
            b.wrong("lit 1 1;", 1, 4);
            b.wrong("pull p 1;ring p;", 1, 15);
            b.wrong("pull p 1;ring 1 p;", 1, 14);
            b.wrong("mend;", 1, 4);
            b.wrong("mend 1 1;", 1, 7);
            b.wrong("burn a;", 1, 5);
            b.wrong("burn 1 1;", 1, 7);
            b.wrong("seed;", 1, 4);
            b.wrong("seed 1 a;", 1, 7);
        });
        b.at("Terms 1", "LAW: toll | stick | fate", () -> {
            for (String word : LANGUAGE) {
                if (isOneOf(word, "toll stick fate")) {
                    b.right("law " + word + " 1;", 1);
                } else {
                    b.wrong("law " + word + " 1;", 1, 4);
                }
            }
            b.wrong("law 1;", 1, 4);
            b.wrong("law;", 1, 3);
            b.wrong("law burned 1;", 1, 4);
        });
    }

    private void laws() {
        b.at("Terms 1", "E: A { or A }. A: B { and B }. B: not B | C.", () -> {
            b.right("law toll 1 or 1 and 1 or not 1 and not not 1;", 1);
            value("1 or 0 and 0", 1);
            value("0 and 0 or 1", 1);
            value("0 or 1 and 0", 0);
            value("not 0 and 0", 0);
            value("not 1 or 1", 1);
            value("not (1 or 1)", 0);
            value("not 2 = 1", 1);
            value("(not 2) = 1", 0);
            value("1 and not 1 = 2", 1);
            value("not not 2 = 1", 0);
            b.wrong("law toll;", 1, 8);
            b.wrong("law toll or 1;", 1, 9);
            b.wrong("law toll and 1;", 1, 9);
            b.wrong("law toll 1 or;", 1, 13);
            b.wrong("law toll 1 and;", 1, 14);
            b.wrong("law toll 1 or and 1;", 1, 14);
            b.wrong("law toll not;", 1, 12);
            b.wrong("law toll not or 1;", 1, 13);
            b.wrong("law toll 1 not 1;", 1, 11);
        });
        b.at("Terms 1", "C: S [ ( < | <= | = | <> | >= | > ) S ]", () -> {
            String[] signs = {"<", "<=", "=", "<>", ">=", ">"};
            for (String one : signs) {
                b.right("law toll 1" + one + "2;", 1);
                b.wrong("law toll 1" + one + ";", 1, 10 + one.length());
                b.wrong("law toll " + one + "1;", 1, 9);
                b.wrong("law toll 1" + one + "not 2;", 1, 10 + one.length());
                b.right("law toll 1" + one + "(not 2);", 1);
                // One in each S of it, one in each law, not two side by side, however deep they are.
                b.right("law toll (1" + one + "2)" + one + "(3" + one + "4);law stick 1" + one + "2;", 2);
                b.wrong("law toll (1" + one + "2" + one + "3);", 1, 12 + one.length());
                b.wrong("law toll ((((((((1" + one + "2" + one + "3))))))));", 1, 19 + one.length());
                b.wrong("law toll 1" + one + "(2" + one + "3)" + one + "4;", 1, 14 + 2 * one.length());
                b.wrong("law toll (1" + one + "2)" + one + "3" + one + "4;", 1, 14 + 2 * one.length());
                b.wrong("law toll not 1" + one + "2" + one + "3;", 1, 15 + one.length());
                b.right("law toll 1" + one + "2 or 2" + one + "3 and not 3" + one + "4;", 1);
                for (String other : signs) {
                    b.wrong("law toll 1 " + one + " 2 " + other + " 3;", 1, 14 + one.length());
                    b.wrong("law toll 1 " + one + " 2 + 2 " + other + " 3;", 1, 18 + one.length());
                    b.right("law toll (1 " + one + " 2) " + other + " 3;", 1);
                    b.right("law toll 1 " + one + " 2 and 2 " + other + " 3;", 1);
                }
            }
        });
        b.at("Terms 1", "S: T { ( + | - ) T }. T: P { ( * | / ) P }", () -> {
            for (String sign : new String[] {"+", "-", "*", "/"}) {
                b.right("law toll 1" + sign + "2" + sign + "3;", 1);
                b.wrong("law toll " + sign + "1;", 1, 9);
                b.wrong("law toll 1" + sign + ";", 1, 11);
                b.wrong("law toll 1" + sign + sign + "1;", 1, 11);
                b.wrong("law toll 1" + sign + "not 1;", 1, 11);
                b.wrong("law toll 1" + sign, 1, 11);
                b.right("law toll 1" + sign + "(not 2);", 1);
            }
            value("7 - 2 - 1", 4);
            value("7 - (2 - 1)", 6);
            value("7 - 2 + 1", 6);
            value("8 / 4 / 2", 1);
            value("8 / (4 / 2)", 4);
            value("9 / 2 * 2", 8);
            value("2 + 3 * 4", 14);
            value("2 * 3 + 4", 10);
            value("(2 + 3) * 4", 20);
            value("9 - 8 / 4", 7);
            value("3 = 1 + 2", 1);
            value("1 + 2 = 3", 1);
            value("1 + (2 = 3)", 1);
        });
        b.at("Terms 1", "P: N | NAME | '(' E ')'", () -> {
            b.right("law toll (not 1 or 2 < 3);", 1);
            b.right("law toll ((1));", 1);
            value("1 + (not 0)", 2);
            value("2 * (1 < 2)", 2);
            b.wrong("law toll ();", 1, 10);
            b.wrong("law toll (1;", 1, 11);
            b.wrong("law toll (1", 1, 11);
            b.wrong("law toll (", 1, 10);
            b.wrong("law toll 1);", 1, 10);
            b.wrong("law toll );", 1, 9);
            b.wrong("law toll (1));", 1, 12);
            b.wrong("law toll 1(2);", 1, 10);
            b.wrong("law toll (1)(2);", 1, 12);
            b.wrong("law toll (1)2;", 1, 12);
            b.wrong("law toll 1 2;", 1, 11);
            b.wrong("law toll 1 cost;", 1, 11);
            b.wrong("law toll [1];", 1, 9);
        });
        b.at("Terms 1", "N of E 0 .. 9999", () -> {
            b.due("the least", b.right("pull p 1;law toll 0;", 2).law(0, 0), 0);
            b.due("the highest", b.right("pull p 1;law toll 9999;", 2).law(0, 0), 9999);
            b.wrong("law toll 10000;", 2, 9);
            b.wrong("law toll 1+10000;", 2, 11);
            b.wrong("law toll 2147483648;", 2, 9);
            b.wrong("law toll 4294967296;", 2, 9);
            b.wrong("law toll 18446744073709551616;", 2, 9);
        });
        b.at("Terms 1", "NAME: cost worn shown ties out age minute", () -> {
            for (String word : LANGUAGE) {
                if (isOneOf(word, "cost worn shown ties out age minute")) {
                    b.right("law toll " + word + ";law stick " + word + ";law fate " + word + ";", 3);
                } else {
                    b.wrong("law fate " + word + ";", 1, "not".equals(word) ? 12 : 9);
                }
            }
            b.wrong("lamp a;law fate a;", 1, 16);
            b.wrong("law fate costs;", 1, 9);
        });
        b.at("Terms 1", "A = (or > behind <) right behind < or > belongs to it.", () -> {
            b.due("<=", b.right("pull p 1;law toll 2<=2;", 2).law(0, 0), 1);
            b.due(">=", b.right("pull p 1;law toll 2>=2;", 2).law(0, 0), 1);
            b.due("<>", b.right("pull p 1;law toll 2<>2;", 2).law(0, 0), 0);
            b.wrong("law toll 1< =2;", 1, 12);
            b.wrong("law toll 1> =2;", 1, 12);
            b.wrong("law toll 1< >2;", 1, 12);
            b.wrong("law toll 1<\n=2;", 1, 12);
            b.wrong("law toll 1=<2;", 1, 11);
            b.wrong("law toll 1=>2;", 1, 11);
            b.wrong("law toll 1><2;", 1, 11);
            b.wrong("law toll 1<<2;", 1, 11);
            b.wrong("law toll 1>>2;", 1, 11);
            b.wrong("law toll 1==2;", 1, 11);
            b.wrong("law toll 1<==2;", 1, 12);
            b.wrong("law toll 1<>=2;", 1, 12);
            b.wrong("law toll 1<=>2;", 1, 12);
            b.wrong("law toll 1<", 1, 11);
        });
    }

    private void howMany() {
        b.at("Terms 1", "LAMPS, at most 14.", () -> {
            b.due("none", b.right("", 0).count(0), 0);
            b.due("fourteen", b.right(many("lamp ", ";", 14), 14).count(0), 14);
            b.wrong(many("lamp ", ";", 15), 2, 14 * 7);
        });
        b.at("Terms 1", "PULLS, at most 10", () -> {
            b.due("none", b.right("", 0).count(1), 0);
            b.due("ten", b.right(many("pull ", " 1;", 10), 10).count(1), 10);
            b.wrong(many("pull ", " 1;", 11), 2, 10 * 9);
        });
        b.at("Terms 1", "LAMPS each is TIED to (any number of them, none twice of one PULL)", () -> {
            String lamps = many("lamp ", ";", 14);
            b.due("to none", b.right(lamps + "pull p 1;", 15).pull(0, 3), 0);
            b.due("to all", b.right(lamps + "pull p 1" + many(" ", "", 14) + ";", 15).pull(0, 3), 16383);
            b.due("to the last", b.right(lamps + "pull p 1 n;", 15).pull(0, 3), 8192);
            b.due("of two pulls the same", b.right("lamp a;pull p 1 a;pull q 1 a;", 3).lamp(0, 3), 3);
            b.wrong("lamp a;pull p 1 a a;", 3, 18);
            b.wrong(lamps + "pull p 1" + many(" ", "", 14) + " n;", 3, 98 + 8 + 28 + 1);
            b.wrong(lamps + "pull p 1" + many(" ", "", 14) + " o;", 4, 98 + 8 + 28 + 1);
        });
        b.at("Terms 1", "lit: a LAMP is ON at first (each once)", () -> {
            b.due("none", b.right(many("lamp ", ";", 14), 14).evening(1), 0);
            b.due("all", b.right(many("lamp ", ";", 14) + many("lit ", ";", 14), 28).evening(1), 16383);
            b.due("the last", b.right(many("lamp ", ";", 14) + "lit n;", 15).evening(1), 8192);
            b.wrong("lamp a;lit a;lit a;", 3, 17);
            b.wrong("lamp a;lamp b;lit b;lit b;", 3, 24);
        });
        b.at("Terms 1", "RINGS, at most 14", () -> {
            b.due("none", b.right("pull p 1;", 1).count(2), 0);
            b.due("fourteen", b.right("pull p 1;" + "ring p 1;".repeat(14), 15).count(2), 14);
            b.wrong("pull p 1;" + "ring p 1;".repeat(15), 2, 9 + 14 * 9);
            BellPulls x = b.right("pull p 1;" + "ring p 7;".repeat(14), 15);
            x.go(8);
            b.due("all of one minute", x.pull(0, 2), 14);
        });
        b.at("Terms 1", "mend, at most 4", () -> {
            b.right("mend 1;mend 1;mend 1;mend 1;", 4);
            b.wrong("mend 1;".repeat(5), 2, 28);
            // The fourth is as good as the first.
            BellPulls x = b.right("pull p 1;law stick 1;ring p 2;mend 9;mend 8;mend 7;mend 3;", 7);
            x.go(3);
            b.due("stuck", x.count(8), 1);
            x.go(1);
            b.due("mended", x.count(8), 0);
        });
        b.at("Terms 1", "All numbered as they come; LAMPS, PULLS have names of their kind.", () -> {
            BellPulls x = b.right("lamp b;pull b 1;pull a 2;lamp a;", 4);
            b.due("lamp b", x.named(0, Checks.letters("b")), 0);
            b.due("lamp a", x.named(0, Checks.letters("a")), 1);
            b.due("pull b", x.named(1, Checks.letters("b")), 0);
            b.due("pull a", x.named(1, Checks.letters("a")), 1);
        });
    }

    private void numbersTold() {
        b.at("Terms 1", "a COST 0 .. 99", () -> {
            b.due("least", b.right("pull p 0;", 1).pull(0, 0), 0);
            b.due("most", b.right("pull p 99;", 1).pull(0, 0), 99);
            b.wrong("pull p 100;", 2, 7);
            b.wrong("pull p 4294967296;", 2, 7);
        });
        b.at("Terms 1", "a PULL in a MINUTE 0 .. 99", () -> {
            BellPulls x = b.right("pull p 1;ring p 0;ring p 99;", 3);
            b.due("in the first", x.ahead(1, 1), 1);
            x.go(99);
            b.due("once by then", x.pull(0, 2), 1);
            x.go(1);
            b.due("in the last", x.pull(0, 2), 2);
            b.wrong("pull p 1;ring p 100;", 2, 16);
            b.wrong("pull p 1;ring p 4294967296;", 2, 16);
        });
        b.at("Terms 1", "mend, at most 4: a MINUTE 0 .. 99", () -> {
            BellPulls x = b.right("pull p 1;law stick 1;mend 0;mend 99;", 4);
            x.ring(0);
            x.go(1);
            b.due("in the first", x.count(8), 0);
            x.ring(0);
            x.go(98);
            b.due("not yet", x.count(8), 1);
            x.go(1);
            b.due("in the last", x.count(8), 0);
            b.wrong("mend 100;", 2, 5);
            b.wrong("mend 4294967296;", 2, 5);
        });
        b.at("Terms 1", "burn: of a hundred 0 .. 100 (0).", () -> {
            b.due("0", b.right("lamp a;lit a;burn 0;", 3).holds(1, 0), 1);
            b.due("100", b.right("lamp a;lit a;burn 100;", 3).holds(1, 0), 0);
            BellPulls x = b.right("lamp a;lit a;seed 0;", 3);
            x.go(200);
            b.due("not told: 0", x.count(7), 0);
            b.due("not told: 0", x.holds(1, 0), 1);
            b.wrong("burn 101;", 2, 5);
            b.wrong("burn 4294967296;", 2, 5);
        });
        b.at("Terms 1", "seed: 0 .. 99999 (0).", () -> {
            // The first number of seed 0 is 0, modulo 100; that of seed 99999 isn't below 1.
            for (String seed : new String[] {"", "seed 0;"}) {
                BellPulls x = Checks.of("lamp a;lit a;burn 1;" + seed);
                x.go(1);
                b.due("burnt by " + seed, x.count(7), 1);
            }
            BellPulls y = b.right("lamp a;lit a;burn 1;seed 99999;", 4);
            y.go(1);
            b.due("sound by 99999", y.count(7), 0);
            b.wrong("seed 100000;", 2, 5);
            b.wrong("seed 4294967296;", 2, 5);
        });
    }

    private void faults() {
        b.at("Terms 1", "FAULTS, the first along the text", () -> {
            b.wrong("lamp a;lamp a;lamp $;", 3, 12);
            b.wrong("lamp a;lamp $;lamp a;", 1, 12);
            b.wrong("lit a;lamp b;lamp b;", 4, 4);
            b.wrong("burn 101;burn 101;", 2, 5);
            b.wrong("pull p 100 a;", 2, 7);
            b.wrong("pull p 1 a;pull p 100;", 4, 9);
            b.wrong(many("lamp ", ";", 14) + "lamp a", 2, 98);
            b.wrong("seed 1;seed 100000;", 3, 7);
            b.wrong("law toll 1;law toll 10000;", 3, 15);
        });
        b.at("Terms 1", "(of one place the least)", () -> {
            // What can't stand there is that, whatever else might be said of it.
            b.wrong("lamp 100000;", 1, 5);
            b.wrong("mend 1 100;", 1, 7);
            b.wrong("lit abcdefg;", 1, 4);
            b.wrong("ring minute 1;", 1, 5);
            b.wrong("burn 1 burn 1;", 1, 7);
            b.wrong("law toll 1 law toll 1;", 1, 11);
            b.wrong(many("lamp ", ";", 14) + "lit a lamp;", 1, 104);
            b.wrong("mend 1;mend 1;mend 1;mend 1 mend 1;", 1, 28);
            b.wrong("law toll ((((((((1(1", 1, 18);
            b.wrong("law toll 1 10000;", 1, 11);
            String full = "law toll 1" + "+1".repeat(31) + "+";
            b.wrong(full + "+", 1, full.length());
            b.wrong(full + "not 1;", 1, full.length());
            b.wrong(full + ";", 1, full.length());
            b.wrong("law toll not 1" + "+1".repeat(31) + " not 1;", 1, 77);
        });
        b.at("Terms 1", "1 a TOKEN that is none", () -> {
            for (char sign : "!\"#$%&',.:?@[\\]^_`{|}~".toCharArray()) {
                b.wrong("" + sign, 1, 0);
                b.wrong("lamp a" + sign, 1, 6);
                b.wrong("law toll " + sign, 1, 9);
                b.wrong("law toll 1" + sign, 1, 10);
            }
        });
        b.at("Terms 1", "(a word of more than 6 letters that isn't of the language, too)", () -> {
            b.wrong("abcdefg;", 1, 0);
            b.wrong("minutes;", 1, 0);
            b.wrong("lamp minutes;", 1, 5);
            b.wrong("law toll minutes;", 1, 9);
            b.wrong("lamp minute;", 1, 5);
            b.wrong("lamp abcdef;lit abcdefg;", 1, 16);
            b.wrong("lamp abcdef;lamp abcdefg;", 1, 17);
            b.wrong("lamp " + "a".repeat(40) + ";", 1, 5);
        });
        b.at("Terms 1", "or can't stand there (the length, if more must come)", () -> {
            for (String text : new String[] {"lamp", "lamp ", "lamp a", "lamp a \n", "pull", "pull p", "pull p 1", "lit",
                "ring", "mend", "mend 1", "burn", "burn 1", "seed", "seed 1", "law", "law toll", "law toll 1", "law toll (",
                "law toll (1", "law toll not", "law toll 1 +", "law toll 1 <", "law toll 1 and ", "lamp a;lamp b;lamp"}) {
                b.wrong(text, 1, text.length());
            }
            b.wrong("lamp a;pull p 1 a", 1, 17);
            b.wrong("lamp a;lit a", 1, 12);
            b.wrong("pull p 1;ring p", 1, 15);
            b.wrong("pull p 1;ring p 1", 1, 17);
        });
    }

    private void faultsOfTooMuch() {
        b.at("Terms 1", "2 too much (at it): a number beyond what is said", () -> {
            b.wrong("pull p   100;", 2, 9);
            b.wrong("pull p 1;ring p\n100;", 2, 16);
            b.wrong("mend  100;", 2, 6);
            b.wrong("burn  101;", 2, 6);
            b.wrong("seed  100000;", 2, 6);
            b.wrong("law toll cost <10000;", 2, 15);
        });
        b.at("Terms 1", "a fifteenth lamp and so on (at the word of the LINE)", () -> {
            b.wrong(many("lamp ", ";", 14) + " lamp", 2, 99);
            b.wrong(many("lamp ", ";", 14) + "lamp 1;", 2, 98);
            b.wrong(many("pull ", " 1;", 10) + "\npull", 2, 91);
            b.wrong("pull p 1;" + "ring p 1;".repeat(14) + "ring", 2, 135);
            b.wrong("mend 1;mend 1;mend 1;mend 1;mend", 2, 28);
        });
        b.at("Terms 1", "a ninth '(' open", () -> {
            b.right("law toll ((((((((1))))))));", 1);
            b.wrong("law toll (((((((((1)))))))));", 2, 17);
            // Those that are closed are not open.
            b.right("law toll ((((((((1))))))))+((((((((1))))))));", 1);
            b.right("law toll (((((((" + "(1)+".repeat(20) + "(1))))))));", 1);
            b.wrong("law toll ((((((((1)+(1)+((", 2, 25);
            b.right("law toll ((((((((1))))))));law stick ((((((((1))))))));", 2);
        });
        b.at("Terms 1", "a 65th KNOT of all E (N, NAMES, signs, not, and, or: one each)", () -> {
            String full = "law toll not 1" + "+1".repeat(31);
            b.due("64", b.right(full + ";", 1).count(3), 64);
            b.wrong(full + "+1;", 2, full.length());
            b.wrong(full + " and 1;", 2, full.length() + 1);
            b.wrong(full + " or 1;", 2, full.length() + 1);
            for (String sign : new String[] {"<", "<=", "=", "<>", ">=", ">", "-", "*", "/"}) {
                b.wrong(full + sign + "1;", 2, full.length());
            }
            // '(' is none; a law of its own goes on counting.
            b.due("without ( and )", b.right("law toll ((1));", 1).count(3), 1);
            // The most that can wait for its right side: eight '(' and 63 not.
            BellPulls x = b.right("pull p 1;law toll " + "(".repeat(8) + "not ".repeat(63) + "1" + ")".repeat(8) + ";", 2);
            b.due("64 with ( and )", x.count(3), 64);
            b.due("63 times not", x.law(0, 0), 0);
            b.wrong(full + ";law stick 1;", 2, full.length() + 11);
            b.wrong(full + ";law stick cost;", 2, full.length() + 11);
            b.wrong(full + ";law stick not 1;", 2, full.length() + 11);
            b.wrong(full + ";law stick ((1));", 2, full.length() + 13);
            b.due("of each kind", b.right("law toll not 1 and cost or 1 <= 1 + 1 - 1 * 1 / 1;", 1).count(3), 16);
        });
    }

    private void faultsOfTellingTwice() {
        b.at("Terms 1", "3 told already: a name of its kind (at W)", () -> {
            b.wrong("lamp a;lamp  a;", 3, 13);
            b.wrong("pull a 1;pull  a 1;", 3, 15);
            b.wrong("lamp abcdef;lamp abcdef;", 3, 17);
            b.right("lamp abcdef;lamp abcdee;lamp abcde;lamp bbcdef;", 4);
            b.wrong(many("lamp ", ";", 13) + "lamp m;", 3, 13 * 7 + 5);
            b.wrong(many("pull ", " 1;", 9) + "pull i 1;", 3, 9 * 9 + 5);
            b.right("lamp a;pull a 1;", 2);
            b.right("pull a 1;lamp a;", 2);
        });
        b.at("Terms 1", "a LAMP of the same PULL", () -> {
            b.wrong("lamp a;lamp b;pull p 1 a b  a;", 3, 28);
            b.wrong("lamp a;lamp b;pull p 1 b b;", 3, 25);
            b.right("lamp a;lamp b;pull p 1 a b;pull q 1 a b;", 4);
        });
        b.at("Terms 1", "one that is lit (at W)", () -> {
            b.wrong("lamp a;lit a;lit  a;", 3, 18);
            b.right("lamp a;lamp b;lit a;lit b;", 4);
        });
        b.at("Terms 1", "burn, seed (at the word)", () -> {
            b.wrong("burn 0;burn 0;", 3, 7);
            b.wrong("burn 1; burn", 3, 8);
            b.wrong("seed 0;seed 0;", 3, 7);
            b.wrong("seed 1; seed", 3, 8);
            b.right("burn 1;seed 1;", 2);
        });
        b.at("Terms 1", "a law of its LAW (at LAW)", () -> {
            for (String law : new String[] {"toll", "stick", "fate"}) {
                String first = "law " + law + " 0;";
                b.wrong(first + "law  " + law, 3, first.length() + 5);
                b.wrong(first + "law " + law + " 1;", 3, first.length() + 4);
            }
            b.right("law fate 0;law stick 0;law toll 0;", 3);
        });
    }

    private void faultsOfNotTold() {
        b.at("Terms 1", "4 a LAMP, a PULL that isn't told ahead (at W)", () -> {
            b.wrong("lit  a;", 4, 5);
            b.wrong("lit a;lamp a;", 4, 4);
            b.wrong("pull p 1  a;", 4, 10);
            b.wrong("pull p 1 a;lamp a;", 4, 9);
            b.wrong("lamp a;pull p 1 a b;lamp b;", 4, 18);
            b.wrong("ring  p 1;", 4, 6);
            b.wrong("ring p 1;pull p 1;", 4, 5);
            // A name of the other kind, and one that only begins so, is none.
            b.wrong("lamp a;ring a 1;", 4, 12);
            b.wrong("pull p 1;lit p;", 4, 13);
            b.wrong("pull p 1 p;", 4, 9);
            b.wrong("lamp ab;lit a;", 4, 12);
            b.wrong("lamp ab;lit abc;", 4, 12);
        });
    }

    private void newObject() {
        b.at("Promise 1", "A TEXT without LINES", () -> {
            BellPulls x = new BellPulls();
            for (int what = 0; what <= 14; what++) {
                b.due("count(" + what + ")", x.count(what), 0);
            }
            b.due("evening", x.evening(0) + x.evening(1) + x.evening(2), 0);
            b.due("lamp", Checks.lamp(x, 0, 0), -1001);
            b.due("pull", x.pull(0, 0), -1);
            b.due("law", x.law(0, 0), Long.MIN_VALUE);
            b.due("mend", x.mend(), false);
            b.due("ways", x.ways(0), 1);
            b.due("ways", x.ways(1), -1);
            b.due("rank", x.rank(), 0);
            b.due("holds", x.holds(6, 0), 1);
            b.due("holds", x.holds(6, 1), 1);
            b.due("fits", x.fits(), 1);
            b.due("undo", x.undo(), -1);
            b.due("back", x.back(), -1);
            b.due("fault", x.fault(0), 0);
            b.due("place", x.fault(1), -1);
            b.due("go", x.go(200), 200);
            b.due("keep", x.keep(), 200);
            b.due("back", x.back(), 200);
        });
        b.at("Promise 1", "an empty TAPE", () -> {
            BellPulls x = new BellPulls();
            b.due("no byte", x.text(1), -2);
            b.due("none is enough", x.text(0), 0);
            b.due("the first twenty", x.feed(0, 0, 0, 0, 0), 20);
        });
    }

    private void feed() {
        b.at("Promise 2", "Twenty bytes come behind the TAPE, four of each number, the highest first: how many it has", () -> {
            BellPulls x = new BellPulls();
            b.due("lamp zabcde;lamp y; ", x.feed(0x6c616d70, 0x207a6162, 0x6364653b, 0x6c616d70, 0x20793b20), 20);
            b.due("lit y;lit zabcde;   ", x.feed(0x6c697420, 0x793b6c69, 0x74207a61, 0x62636465, 0x3b202020), 40);
            b.due("behind each other", x.text(40), 4);
            b.due("zabcde", x.named(0, Checks.letters("zabcde")), 0);
            b.due("y", x.named(0, Checks.letters("y")), 1);
            b.due("both lit", x.evening(1), 3);
            // The highest bit of a byte is no sign of a number: 255 is a byte like others.
            x.feed(0x6c616d70, 0x20ffffff, -1, -1, -1);
            b.due("255", x.text(20), -1);
            b.due("its place", x.fault(1), 5);
        });
        b.at("Promise 2", "NONE, and none come, if it would have more than 700", () -> {
            BellPulls x = new BellPulls();
            for (int i = 1; i <= 35; i++) {
                b.due("feed " + i, x.feed(BLANKS, BLANKS, BLANKS, BLANKS, BLANKS), 20 * i);
            }
            b.due("one more", x.feed(-1, -1, -1, -1, -1), -1);
            b.due("one more, again", x.feed(-1, -1, -1, -1, -1), -1);
            b.due("701", x.text(701), -2);
            b.due("full still", x.feed(-1, -1, -1, -1, -1), -1);
            b.due("700 blanks", x.text(700), 0);
            b.due("empty now", x.feed(-1, -1, -1, -1, -1), 20);
        });
    }

    private void text() {
        b.at("Promise 3", "The TAPE's first n bytes (it is empty then) are the TEXT", () -> {
            BellPulls x = new BellPulls();
            x.feed(0x6c616d70, 0x20613b6c, 0x616d7020, 0x623b6c61, 0x6d702063);
            b.due("the first seven", x.text(7), 1);
            b.due("one lamp", x.count(0), 1);
            b.due("the others are gone", x.text(1), -2);
            b.due("empty", x.feed(0x3b202020, BLANKS, BLANKS, BLANKS, BLANKS), 20);
            b.due("none of them is left", x.text(20), -1);
            b.due("the first of the new ones", x.fault(1), 0);
            // All of a full one, up to the last byte.
            BellPulls y = new BellPulls();
            b.due("700 bytes", Checks.tell(y, " ".repeat(692) + "lamp a;" + ";"), -1);
            b.due("the last byte", y.fault(1), 699);
            b.due("700 bytes", Checks.tell(y, " ".repeat(693) + "lamp a;"), 1);
            // What stands behind them is no part of it: not of a word, a number, a sign that begins in them.
            firstBytes("lamp abc;", 7, 1, 7);
            firstBytes("lamps;", 4, 1, 4);
            firstBytes("pull p 100;", 9, 1, 9);
            firstBytes("law toll 1<=2;", 11, 1, 11);
            firstBytes("law toll 1<>2;", 11, 1, 11);
            firstBytes("law toll 1>=2;", 11, 1, 11);
            firstBytes("lamp a;lamp b;", 13, 1, 13);
            firstBytes("lamp a; $", 8, 0, -1);
        });
        b.at("Promise 3", "(it is empty then)", () -> {
            for (String text : new String[] {"", "lamp a;", "$", "lamp a;lamp a;", "lamp"}) {
                BellPulls x = new BellPulls();
                Checks.tell(x, text);
                b.due("behind " + text, x.text(1), -2);
                b.due("behind " + text, x.feed(BLANKS, BLANKS, BLANKS, BLANKS, BLANKS), 20);
            }
        });
        b.at("Promise 3", "how many LINES", () -> {
            BellPulls x = new BellPulls();
            b.due("none", x.text(0), 0);
            b.due("one", Checks.tell(x, "lamp a;"), 1);
            b.due("42", Checks.tell(x, many("lamp ", ";", 14) + many("pull ", " 1;", 10) + "ring a 1;".repeat(14)
                    + "mend 1;".repeat(4)), 42);
            b.due("61", Checks.tell(x, many("lamp ", ";", 14) + many("lit ", ";", 14) + many("pull ", " 1;", 10)
                    + "ring a 1;".repeat(14) + "mend 1;".repeat(4) + "burn 1;seed 1;law toll 1;law stick 1;law fate 1;"), 61);
        });
        b.at("Promise 3", "(MINUTE 0, LAMPS ON that are lit, TIED as told, all FREE, sound, no TOLL, NOTES, all KNOWN, no IMAGE,"
                + " nothing to undo then)", () -> {
            BellPulls x = Checks.of("lamp a;lamp b;lamp c;pull p 1 a b c;pull q 1 c;lit a;lit b;law stick 1;ring q 0;ring q 1;"
                    + "burn 100;");
            x.go(2);
            x.keep();
            x.ring(0);
            x.tie(0, 0);
            x.note(0, 0, true);
            x.known(0);
            b.due("the other text", Checks.tell(x, "lamp a;lamp b;pull p 1 b;lit b;"), 4);
            int[] due = {2, 1, 0, 0, 0, 1, 1, 0, 0, 0, 0, 1, 0, 0, 0};
            for (int what = 0; what < due.length; what++) {
                b.due("count(" + what + ")", x.count(what), due[what]);
            }
            b.due("lit", x.evening(1), 2);
            b.due("tied", x.pull(0, 3), 2);
            b.due("worn", x.pull(0, 2), 0);
            b.due("age", x.lamp(0, 2) + x.lamp(1, 2), 0);
            b.due("no image", x.back(), -1);
            b.due("nothing to undo", x.undo(), -1);
            x.note(0, 0, true);
            b.due("all known", x.count(13), 1);
            b.due("no law", x.law(1, 0), Long.MIN_VALUE);
            b.due("no burn", x.holds(1, 0), 1);
            // Numbers begin anew, too: the first of seed 0 is below 1, the second isn't.
            String chancy = "lamp a;lit a;burn 1;";
            for (int i = 0; i < 2; i++) {
                Checks.tell(x, chancy);
                x.go(1);
                b.due("the first number", x.count(7), 1);
            }
        });
    }

    /** Only so many bytes of these are the text. */
    private void firstBytes(String bytes, int n, int fault, int place) {
        BellPulls x = new BellPulls();
        Checks.feed(x, bytes);
        b.due("the first " + n + " of " + bytes, x.text(n), fault == 0 ? 1 : -1);
        b.due("fault of them", x.fault(0), fault);
        b.due("place in them", x.fault(1), place);
    }

    private void textByText() {
        String full = "lamp a;lamp b;pull p 1 a b;pull q 2 b;lit a;ring p 0;mend 1;burn 100;seed 99999;law toll 1 < (2);"
                + "law stick 1 + 2;law fate 1" + "+1".repeat(20) + ";";
        b.at("Promise 3", "are the TEXT", () -> {
            // Of the texts ahead of it, right ones and refused ones, nothing is left.
            BellPulls x = new BellPulls();
            for (String ahead : new String[] {full, full + "$", full.substring(0, 70), "law toll ((((((((not 1 < 2 +", "law fate 1 < 2 <"}) {
                for (int many = 1; many <= 3; many++) {
                    for (int i = 0; i < many; i++) {
                        Checks.tell(x, ahead);
                        x.go(1);
                    }
                    fresh(x);
                }
            }
        });
    }

    private void fresh(BellPulls x) {
        b.due("a small text", Checks.tell(x, "lamp a;pull q 7;lit a;"), 3);
        int[] due = {1, 1, 0, 0, 0, 1, 1, 0, 0, 0, 0, 0, 0, 0, 0};
        for (int what = 0; what < due.length; what++) {
            b.due("count(" + what + ")", x.count(what), due[what]);
        }
        b.due("age", Checks.lamp(x, 0, 2), 0);
        b.due("tied to it", Checks.lamp(x, 0, 3), 0);
        b.due("cost", x.pull(0, 0), 7);
        b.due("tied", x.pull(0, 3), 0);
        b.due("first told", x.named(1, Checks.letters("q")), 0);
        for (int what = 0; what < 3; what++) {
            b.due("law " + what, x.law(what, 0), Long.MIN_VALUE);
        }
        b.due("burn", x.holds(1, 0), 1);
        b.due("by rings", x.ahead(200, 1), 0);
        b.due("by burning", x.ahead(200, 3), 0);
        b.due("as much again", Checks.tell(x, "burn 1;seed 0;lamp x;lit x;law toll 1 < 2;law stick (1) < 2;law fate 1" + "+0".repeat(20) + ";"), 7);
        b.due("its knots", x.count(3), 47);
        x.go(1);
        b.due("burnt by the first number of seed 0", x.count(7), 1);
        b.due("no seed", Checks.tell(x, "burn 1;lamp x;lit x;"), 3);
        x.go(1);
        b.due("burnt by the first number of seed 0", x.count(7), 1);
        // A mending that was told ahead would come of it.
        b.due("no mending", Checks.tell(x, "pull p 1;law stick 1;"), 2);
        x.ring(0);
        x.go(50);
        b.due("stuck still", x.count(8), 1);
    }

    /** A house in which something was done, and five bytes with a FAULT at the fourth of them on its TAPE. */
    private static BellPulls busy() {
        BellPulls x = Checks.of("lamp a;lamp b;pull p 3 a;pull q 2 b;lit a;law stick worn > 1;");
        x.go(1);
        x.keep();
        x.note(0, 0, true);
        x.note(1, 0, true);
        x.known(1);
        x.ring(0);
        x.tie(1, 0);
        x.feed(0x6c616d70, 0x3b202020, BLANKS, BLANKS, BLANKS);
        return x;
    }

    private void asItWas(BellPulls x) {
        int[] due = {2, 2, 0, 3, 1, 0, 0, 0, 0, 3, 0, 3, 2, 1, 2};
        for (int what = 0; what < due.length; what++) {
            b.due("count(" + what + ")", x.count(what), due[what]);
        }
        b.due("named", x.named(1, Checks.letters("q")), 1);
        b.due("law", x.law(1, 0), 0);
        b.due("undo", x.undo(), 1);
        b.due("back", x.back(), 1);
        b.due("on as in the image", x.evening(1), 1);
    }

    private void textRefused() {
        b.at("Promise 3", "NONE with a FAULT, all stays", () -> {
            BellPulls x = busy();
            b.due("a fault", x.text(5), -1);
            b.due("at the fifth", x.fault(1), 4);
            asItWas(x);
            // A text that told much ahead of its fault leaves nothing of that, either.
            BellPulls y = Checks.of("lamp a;pull p 5 a;lit a;");
            b.due("a late fault", Checks.tell(y, "lamp x;lamp y;pull x 9 x y;lit x;burn 100;law toll 7;seed 1;$"), -1);
            b.due("lamps", y.count(0), 1);
            b.due("x", y.named(0, Checks.letters("x")), -1);
            b.due("a", y.named(0, Checks.letters("a")), 0);
            b.due("cost", y.pull(0, 0), 5);
            b.due("tied", y.pull(0, 3), 1);
            b.due("knots", y.count(3), 0);
            b.due("law", y.law(0, 0), Long.MIN_VALUE);
            b.due("burn", y.holds(1, 0), 1);
        });
        b.at("Promise 3", "-2, and the TAPE stays: there are not so many", () -> {
            BellPulls x = busy();
            b.due("21", x.text(21), -2);
            b.due("highest", x.text(Integer.MAX_VALUE), -2);
            b.due("the tape stays", x.feed(BLANKS, BLANKS, BLANKS, BLANKS, BLANKS), 40);
            b.due("41", x.text(41), -2);
            asItWas(x);
            b.due("all 40", x.text(40), -1);
            b.due("its bytes are as fed", x.fault(1), 4);
        });
        b.at("Promise 3", "n is below 0", () -> {
            BellPulls x = busy();
            b.due("-1", x.text(-1), -2);
            b.due("lowest", x.text(Integer.MIN_VALUE), -2);
            b.due("the tape stays", x.feed(BLANKS, BLANKS, BLANKS, BLANKS, BLANKS), 40);
            asItWas(x);
        });
    }

    private void fault() {
        b.at("Promise 4", "Of the latest text() that was not -2, what 0: its FAULT (0)", () -> {
            BellPulls x = new BellPulls();
            b.due("no text yet", x.fault(0), 0);
            Checks.tell(x, "lamp a;lamp a;");
            b.due("a fault", x.fault(0), 3);
            x.text(-1);
            x.text(1);
            b.due("-2 isn't looked at", x.fault(0), 3);
            Checks.tell(x, "lit a;");
            b.due("the latest one", x.fault(0), 4);
            b.due("right", x.text(0), 0);
            b.due("none", x.fault(0), 0);
            x.text(5);
            b.due("still none", x.fault(0), 0);
        });
        b.at("Promise 4", "1: its place (NONE without)", () -> {
            BellPulls x = new BellPulls();
            b.due("no text yet", x.fault(1), -1);
            Checks.tell(x, "$");
            b.due("the first place", x.fault(1), 0);
            x.text(-1);
            b.due("-2 isn't looked at", x.fault(1), 0);
            Checks.tell(x, "lamp");
            b.due("the length", x.fault(1), 4);
            x.text(0);
            b.due("none", x.fault(1), -1);
            x.text(1);
            b.due("still none", x.fault(1), -1);
        });
        b.at("Promise 4", "NONE for another what", () -> {
            BellPulls x = new BellPulls();
            b.each("without", x::fault, -1, -1, 2, 3, Integer.MIN_VALUE, Integer.MAX_VALUE);
            Checks.tell(x, "lit a;");
            b.each("with one", x::fault, -1, -1, 2, 3, Integer.MIN_VALUE, Integer.MAX_VALUE);
        });
    }

    private void named() {
        b.at("Promise 5", "5 bits each (a is 1; the first one highest of six, 0 behind the last one)", () -> {
            BellPulls x = Checks.of("lamp a;lamp zzzzzz;lamp ab;lamp abcdef;pull z 1;");
            b.due("a", x.named(0, 1 << 25), 0);
            b.due("zzzzzz", x.named(0, 26 << 25 | 26 << 20 | 26 << 15 | 26 << 10 | 26 << 5 | 26), 1);
            b.due("ab", x.named(0, 1 << 25 | 2 << 20), 2);
            b.due("abcdef", x.named(0, 1 << 25 | 2 << 20 | 3 << 15 | 4 << 10 | 5 << 5 | 6), 3);
            b.due("z", x.named(1, 26 << 25), 0);
        });
        b.at("Promise 5", "NONE: there is none such", () -> {
            BellPulls x = Checks.of("lamp a;lamp ab;pull q 1;");
            b.each("lamp", letters -> x.named(0, letters), -1, 0, 1, 1 << 20, -1, 1 << 30 | 1 << 25, 1 << 31 | 1 << 25,
                    1 << 25 | 1, 2 << 20, 1 << 25 | 2 << 20 | 3 << 15, Checks.letters("q"), Integer.MIN_VALUE);
            b.each("pull", letters -> x.named(1, letters), -1, 0, Checks.letters("a"), Checks.letters("p"), 17, -1);
            b.each("what", what -> x.named(what, Checks.letters("a")), -1, -1, 2, 3, Integer.MIN_VALUE, Integer.MAX_VALUE);
            b.due("of a text no more", Checks.tell(x, "lamp b;"), 1);
            b.due("a", x.named(0, Checks.letters("a")), -1);
            b.due("ab", x.named(0, Checks.letters("ab")), -1);
            b.due("q", x.named(1, Checks.letters("q")), -1);
        });
    }
}
