/** Promises 6 to 15, 31 and 38 to 43: what happens, and what would. */
public final class MinuteTests {
    private static final Checks C = new Checks();
    private static final String CHANCY = "lamp a;lit a;burn 30;seed ";

    public static void main(String[] args) {
        lamp();
        pull();
        evening();
        law();
        values();
        ring();
        tie();
        mend();
        go();
        minutes();
        burning();
        ahead();
        dark();
        holds();
        chance();
        tried();
        undo();
        images();
        count();
        C.end("MinuteTests");
    }

    private static void lamp() {
        BellPulls x = Checks.of("lamp a;lamp b;pull p 1 a;pull q 1 a b;lit a;burn 100;law stick cost;");
        C.due("on", Checks.lamp(x, 0, 0), 1);
        C.due("off", Checks.lamp(x, 1, 0), 0);
        C.due("sound", Checks.lamp(x, 0, 1), 0);
        C.due("age", Checks.lamp(x, 0, 2), 0);
        C.due("pulls", Checks.lamp(x, 0, 3), 3);
        x.ring(1);
        C.due("pulls, stuck ones too", Checks.lamp(x, 1, 3), 2);
        C.due("off then", Checks.lamp(x, 0, 0), 0);
        x.go(2);
        C.due("burnt", Checks.lamp(x, 1, 1), 1);
        C.due("burnt stays on", Checks.lamp(x, 1, 0), 1);
        C.due("age of a burnt one stays", Checks.lamp(x, 1, 2), 1);
        C.due("age of one that is off", Checks.lamp(x, 0, 2), 0);
        C.due("lamp 2", Checks.lamp(x, 2, 0), -1001);
        C.due("lamp -1", Checks.lamp(x, -1, 9), -1001);
        C.due("what 4", Checks.lamp(x, 0, 4), -1002);
        C.due("what -1", Checks.lamp(x, 1, -1), -1002);
    }

    private static void pull() {
        BellPulls x = Checks.of("lamp a;lamp b;pull p 0;pull q 99 b;law stick cost > 5;");
        C.due("cost", x.pull(0, 0), 0);
        C.due("cost", x.pull(1, 0), 99);
        x.ring(0);
        x.ring(0);
        x.ring(1);
        C.due("free", x.pull(0, 1), 0);
        C.due("stuck", x.pull(1, 1), 1);
        C.due("worn", x.pull(0, 2), 2);
        C.due("worn", x.pull(1, 2), 1);
        C.due("tied to none", x.pull(0, 3), 0);
        C.due("tied", x.pull(1, 3), 2);
        C.due("pull 2", x.pull(2, 0), -1);
        C.due("pull -1", x.pull(-1, 0), -1);
        C.due("what 4", x.pull(0, 4), -1);
        C.due("what -1", x.pull(0, -1), -1);
    }

    private static void evening() {
        BellPulls x = Checks.of("lamp a;lamp b;lamp c;pull p 1 a b;lit a;lit c;law fate (ties = 0) * 100;");
        x.go(1);
        C.due("shown", x.evening(0), 1);
        C.due("on", x.evening(1), 5);
        C.due("burnt", x.evening(2), 4);
        x.ring(0);
        C.due("shown", x.evening(0), 2);
        C.due("on", x.evening(1), 6);
        C.due("what 3", x.evening(3), -1);
        C.due("what -1", x.evening(-1), -1);
    }

    private static void law() {
        BellPulls x = Checks.of("lamp a;lamp b;pull p 7 a b;pull q 3 b;lit a;"
                + "law toll cost * 1000 + worn * 100 + shown * 10 + ties - 9999 * 9999;law stick age + minute + out * 10;"
                + "law fate cost + worn + age * 1000 + ties * 100 + shown * 10 + out + minute * 5000 * 2 - 5000 * 10;");
        C.due("toll of p", x.law(0, 0), 7012 - 9999 * 9999);
        C.due("toll of q", x.law(0, 1), 3011 - 9999 * 9999);
        C.due("fate of a", x.law(2, 0), 110 - 50000);
        C.due("fate of b", x.law(2, 1), 210 - 50000);
        x.go(3);
        x.ring(0);
        C.due("toll of p", x.law(0, 0), 7112 - 9999 * 9999);
        C.due("stick has no age", x.law(1, 0), 3);
        C.due("stick of a stuck one", x.pull(0, 1), 1);
        C.due("fate of a", x.law(2, 0), 3110 + 30000 - 50000);
        C.due("toll of pull 2", x.law(0, 2), Long.MIN_VALUE);
        C.due("toll of pull -1", x.law(0, -1), Long.MIN_VALUE);
        C.due("stick of pull 2", x.law(1, 2), Long.MIN_VALUE);
        C.due("fate of lamp 2", x.law(2, 2), Long.MIN_VALUE);
        C.due("what 3", x.law(3, 0), Long.MIN_VALUE);
        C.due("what -1", x.law(-1, 0), Long.MIN_VALUE);
        C.due("no law", Checks.of("pull p 1;").law(0, 0), Long.MIN_VALUE);
    }

    private static void value(String e, long due) {
        C.due(e, Checks.of("pull p 1;law toll " + e + ";").law(0, 0), due);
    }

    private static void values() {
        long error = Long.MIN_VALUE;
        value("2 + 3 * 4", 14);
        value("2 * 3 + 4", 10);
        value("10 - 3 - 2", 5);
        value("100 / 7 / 2", 7);
        value("100 / (7 / 2)", 33);
        value("(0 - 7) / 2", -3);
        value("7 / (0 - 2)", -3);
        value("12 / 4 * 3", 9);
        value("1 / 0", error);
        value("0 * (1 / 0)", error);
        value("1 or 1 / 0", error);
        value("0 and 1 / 0", error);
        value("not (1 / 0)", error);
        value("1 < 2", 1);
        value("2 < 2", 0);
        value("2 <= 2", 1);
        value("3 <= 2", 0);
        value("2 = 2", 1);
        value("2 = 3", 0);
        value("2 <> 2", 0);
        value("2 <> 3", 1);
        value("2 >= 3", 0);
        value("3 >= 3", 1);
        value("3 > 3", 0);
        value("4 > 3", 1);
        value("7 or 0", 1);
        value("0 or 0", 0);
        value("7 and 9", 1);
        value("7 and 0", 0);
        value("0 - 1 and 1", 1);
        value("not 7", 0);
        value("not 0", 1);
        value("not not 7", 1);
        value("not 1 = 2", 1);
        value("not 0 and 0", 0);
        value("1 or 1 and 0", 1);
        value("0 and 1 or 1", 1);
        value("1 + 1 = 2 and 2 * 2 = 4", 1);
        value("1 < 2 + 3", 1);
        value("(1 < 2) + 3", 4);
        value("(1 = 2) = (3 = 4)", 1);
        value("1000 * 1000 * 1000 * 1000", 1000000000000L);
        value("1000 * 1000 * 1000 * 1000 + 1", error);
        value("1000 * 1000 * 1000 * 999 + 1000 * 1000 * 1000", 1000000000000L);
        value("0 - 1000 * 1000 * 1000 * 999 - 1000 * 1000 * 1000", -1000000000000L);
        value("1000 * 1000 * 1000 * 1000 + 1 - 1", error);
        value("0 - 1000 * 1000 * 1000 * 1000", -1000000000000L);
        value("0 - 1000 * 1000 * 1000 * 1000 - 1", error);
        value("1000 * 1000 * 1000 * 1000 * (0 - 1)", -1000000000000L);
        value("1000 * 1000 * 1000 * 1000 * 1000 * 1000 * 1000 * 1000", error);
        value("(9999*9999*9999)*(9999*9999*9999)", error);
        value("0 * (9999*9999*9999)", 0);
        value("(0-9999)*9999*9999", -999700029999L);
    }

    private static void ring() {
        BellPulls x = Checks.of("lamp a;lamp b;pull p 5 a b;lit a;law toll shown * 10 + worn * 100;law stick shown = 0;");
        C.due("ring", x.ring(0), 1);
        C.due("toll ahead of turning", x.count(9), 10);
        C.due("turned", x.evening(1), 2);
        x.ring(0);
        C.due("worn by then", x.count(9), 120);
        x.tie(0, 1);
        C.due("sticks as turned", x.ring(0), 0);
        C.due("stuck", x.count(8), 1);
        C.due("stuck", x.ring(0), -2);
        C.due("not in vain", x.count(10), 0);
        C.due("nothing comes of it", x.pull(0, 2), 3);
        C.due("nothing to undo of it", x.count(14), 4);
        C.due("pull 1", x.ring(1), -1);
        C.due("pull -1", x.ring(-1), -1);
        BellPulls y = Checks.of("pull p 5;law stick worn >= 2;");
        y.ring(0);
        C.due("worn once", y.count(8), 0);
        y.ring(0);
        C.due("worn with this time", y.count(8), 1);
        toll("", 5);
        toll("law toll 0 - 3;", 0);
        toll("law toll 998 + 1;", 999);
        toll("law toll 1000;", 999);
        toll("law toll 1 / 0;", 5);
        BellPulls z = Checks.of("pull p 5;law toll 9999;law stick 1 / 0;");
        for (int i = 0; i < 100; i++) {
            z.ring(0);
        }
        C.due("toll", z.count(9), 99900);
        z.ring(0);
        C.due("toll at most", z.count(9), 99999);
        C.due("an error doesn't stick", z.count(8), 0);
        BellPulls burnt = Checks.of("lamp a;pull p 1 a;lit a;burn 100;mend 9;");
        burnt.go(1);
        C.due("a burnt one is turned", burnt.ring(0), 0);
        C.due("off", burnt.evening(1), 0);
        C.due("on again, still burnt", burnt.ring(0), 0);
        C.due("on", burnt.evening(1), 1);
    }

    private static void toll(String law, int due) {
        BellPulls x = Checks.of("pull p 5;" + law);
        x.ring(0);
        C.due("toll by " + law, x.count(9), due);
    }

    private static void tie() {
        BellPulls x = Checks.of("lamp a;lamp b;pull p 5 a;law stick 1;");
        C.due("tied", x.tie(0, 1), 1);
        C.due("ties", x.pull(0, 3), 3);
        C.due("loosed", x.tie(0, 0), 0);
        C.due("ties", x.pull(0, 3), 2);
        C.due("of the lamp", x.lamp(1, 3), 1);
        C.due("nothing is turned", x.evening(1), 0);
        C.due("rings as tied", x.ring(0), 1);
        C.due("of a stuck one", x.tie(0, 0), 1);
        C.due("still stuck", x.count(8), 1);
        C.due("pull 1", x.tie(1, 0), -1);
        C.due("pull -1", x.tie(-1, 0), -1);
        C.due("lamp 2", x.tie(0, 2), -1);
        C.due("lamp -1", x.tie(0, -1), -1);
        C.due("to undo", x.count(14), 4);
    }

    private static void mend() {
        BellPulls x = Checks.of("lamp a;pull p 5;lit a;law stick 1;burn 100;");
        C.due("nothing to mend", x.mend(), false);
        C.due("nothing to undo", x.count(14), 0);
        x.ring(0);
        C.due("stuck", x.mend(), true);
        C.due("free", x.count(8), 0);
        C.due("worn stays", x.pull(0, 2), 1);
        C.due("again", x.mend(), false);
        x.go(1);
        C.due("burnt", x.mend(), true);
        C.due("sound", x.count(7), 0);
        C.due("age stays", x.lamp(0, 2), 1);
        C.due("on stays", x.evening(0), 1);
    }

    private static void go() {
        BellPulls x = Checks.of("lamp a;lit a;");
        C.due("go 0", x.go(0), 0);
        C.due("go -1", x.go(-1), -1);
        C.due("go 201", x.go(201), -1);
        C.due("none went by", x.count(4), 0);
        for (int i = 1; i <= 44; i++) {
            C.due("go 200", x.go(200), 200 * i);
        }
        C.due("age at most", x.lamp(0, 2), 999);
        C.due("go 199", x.go(199), 8999);
        C.due("behind 9000", x.go(2), -1);
        C.due("go 1", x.go(1), 9000);
        C.due("behind 9000", x.go(1), -1);
        C.due("go 0", x.go(0), 9000);
        C.due("go -1", x.go(-1), -1);
        C.due("ahead", x.ahead(200, 0), 1);
    }

    private static void minutes() {
        BellPulls x = Checks.of("pull p 1;pull q 10;law stick 1;ring p 0;ring p 0;ring q 1;ring p 1;ring p 2;mend 2;");
        x.go(1);
        C.due("stuck by the first", x.count(8), 1);
        C.due("the second in vain", x.count(10), 1);
        C.due("toll", x.count(9), 1);
        x.go(1);
        C.due("vain", x.count(10), 2);
        C.due("both stuck", x.count(8), 2);
        C.due("toll", x.count(9), 11);
        x.go(1);
        C.due("mended ahead of the rings", x.count(10), 2);
        C.due("toll", x.count(9), 12);
        C.due("p is stuck again", x.pull(0, 1), 1);
        C.due("q is free", x.pull(1, 1), 0);
        // By their numbers: the first ring turns a on, so the second one's toll is higher.
        BellPulls y = Checks.of("lamp a;pull p 1 a;pull q 2;ring q 7;ring p 6;ring q 6;law toll shown + minute * 10;");
        y.go(6);
        C.due("nothing yet", y.count(9), 0);
        y.go(1);
        C.due("p, then q", y.count(9), 60 + 61);
        C.due("age of a", y.lamp(0, 2), 1);
        y.go(1);
        C.due("q", y.count(9), 60 + 61 + 71);
        BellPulls z = Checks.of("lamp a;pull p 1 a;ring p 99;");
        z.go(99);
        C.due("not yet", z.evening(1), 0);
        z.go(1);
        C.due("in the last that can be told", z.evening(1), 1);
        z.go(200);
        C.due("once", z.evening(1), 1);
    }

    private static void burning() {
        // Numbers of seed 0 modulo 100: 0, 68, 88, 17, 98, 27, 45, 41, 22, 10.
        BellPulls x = Checks.of("lamp a;lamp b;lamp c;lit a;lit b;lit c;burn 69;mend 2;");
        x.go(1);
        C.due("0 and 68 are below 69, 88 isn't", x.evening(2), 3);
        x.go(1);
        C.due("17 is below", x.evening(2), 7);
        x.go(1);
        C.due("mended, then 98, 27, 45", x.evening(2), 6);
        BellPulls y = Checks.of("lamp a;lamp b;lamp c;lit a;lit b;lit c;law fate (ties = 0) * 100;pull p 1 b;");
        y.go(1);
        C.due("no number", y.evening(2), 5);
        // Seed 42: 81, 33, 69, 61, 56, 93, 77, 0; b of odds 0 and a of odds 100 take none.
        BellPulls z = Checks.of("lamp a;lamp b;lamp c;lit a;lit b;lit c;pull p 1 b;pull q 1 c;pull r 1 c;seed 42;"
                + "law fate (ties = 0) * 100 + (ties = 2) * 82;");
        z.go(1);
        C.due("81 is below 82", z.evening(2), 5);
        BellPulls w = Checks.of("lamp a;lit a;seed 42;burn 81;");
        w.go(1);
        C.due("81 isn't below 81", w.evening(2), 0);
        w.go(1);
        C.due("33 is", w.evening(2), 1);
        // Shown and out as lamps ahead were burnt; age with this minute; clamped to 0 .. 100.
        fates("law fate out * 100 + (shown = 3) * 100;", 7);
        fates("law fate (out = 1) * 100;", 0);
        fates("law fate 100 - out * 100;", 1);
        fates("law fate (shown = 3) * 200;", 1);
        fates("law fate 0 - 5;", 0);
        fates("law fate 500;", 7);
        fates("law fate age * 100;", 7);
        fates("law fate (age = 0) * 100;", 0);
        fates("law fate 1 / 0;burn 100;", 7);
        fates("law fate 1 / 0;", 0);
        fates("burn 100;", 7);
        fates("law fate 0;burn 100;", 0);
        fates("law fate minute * 100;", 0);
        fates("law fate (cost + worn) * 100;", 0);
    }

    private static void fates(String law, int due) {
        BellPulls x = Checks.of("lamp a;lamp b;lamp c;lit a;lit b;lit c;" + law);
        x.go(1);
        C.due("burnt by " + law, x.evening(2), due);
    }

    private static void ahead() {
        String text = "lamp a;lamp b;pull p 7 a;pull q 2 b;lit b;ring p 0;ring p 1;ring q 2;ring p 3;law stick worn = 2;";
        BellPulls x = Checks.of(text + "mend 5;burn 49;");
        C.due("shown now", x.ahead(0, 0), 1);
        C.due("shown", x.ahead(1, 0), 2);
        C.due("shown", x.ahead(3, 0), 0);
        C.due("nothing burns below 50", x.ahead(200, 3), 0);
        C.due("toll", x.ahead(4, 1), 16);
        C.due("vain", x.ahead(4, 2), 1);
        C.due("vain", x.ahead(3, 2), 0);
        C.due("stuck", x.ahead(5, 4), 1);
        C.due("mended", x.ahead(6, 4), 0);
        C.due("all stays", x.count(4), 0);
        x.ring(1);
        C.due("toll more", x.ahead(4, 1), 16);
        BellPulls again = Checks.of("pull p 1;law stick 1;ring p 0;ring p 0;ring p 1;ring p 2;ring p 3;");
        again.go(2);
        C.due("vain so far", again.count(10), 2);
        C.due("vain more", again.ahead(1, 2), 1);
        C.due("vain more", again.ahead(9, 2), 2);
        C.due("n 201", x.ahead(201, 0), -1);
        C.due("n -1", x.ahead(-1, 0), -1);
        C.due("what 5", x.ahead(1, 5), -1);
        C.due("what -1", x.ahead(1, -1), -1);
        BellPulls y = Checks.of(text + "burn 50;");
        C.due("at 50 all burns", y.ahead(1, 3), 2);
        C.due("shown", y.ahead(1, 0), 0);
        C.due("a law of 50", Checks.of("lamp a;lit a;law fate 50;").ahead(1, 3), 1);
        C.due("a law of 49", Checks.of("lamp a;lit a;burn 99;law fate 49;").ahead(9, 3), 0);
        BellPulls z = Checks.of("lamp a;lit a;burn 30;");
        z.ahead(200, 0);
        z.go(1);
        C.due("no number was taken", z.evening(2), 1);
    }

    private static void dark() {
        BellPulls x = Checks.of("lamp a;lamp b;lamp c;lamp d;lit a;lit b;lit c;pull p 1 b;ring p 98;law fate (ties = 0) * age / 4;");
        C.due("never lit", x.dark(3), 0);
        C.due("turned off", x.dark(1), 99);
        C.due("burnt by age 200", x.dark(0), -2);
        x.go(1);
        x.tie(0, 2);
        C.due("one minute less", x.dark(1), 98);
        BellPulls y = Checks.of("lamp a;lit a;law fate (age >= 199) * 50;");
        C.due("199", y.dark(0), 199);
        C.due("200", Checks.of("lamp a;lit a;law fate (age >= 200) * 50;").dark(0), -2);
        C.due("lamp 1", y.dark(1), -1);
        C.due("lamp -1", y.dark(-1), -1);
        C.due("all stays", y.count(4), 0);
    }

    private static void holds() {
        BellPulls x = Checks.of("burn 30;");
        C.due("0 above", x.holds(0, 0), 1);
        C.due("0 below", x.holds(0, 1), 1);
        C.due("1 above", x.holds(1, 0), 7);
        C.due("1 below", x.holds(1, 1), 10);
        C.due("6 above", x.holds(6, 0), 117649);
        C.due("6 below", x.holds(6, 1), 1000000);
        C.due("n 7", x.holds(7, 0), -1);
        C.due("n -1", x.holds(-1, 0), -1);
        C.due("what 2", x.holds(1, 2), -1);
        C.due("what -1", x.holds(1, -1), -1);
        BellPulls y = Checks.of("burn 1;law fate 50;");
        C.due("by burn told", y.holds(6, 0), 941480149401L);
        C.due("by burn told", y.holds(6, 1), 1000000000000L);
        BellPulls z = Checks.of("burn 100;");
        C.due("all burns", z.holds(2, 0), 0);
        C.due("all burns", z.holds(2, 1), 1);
        C.due("all burns, no minute", z.holds(0, 0), 1);
        C.due("nothing burns", Checks.of("lamp a;").holds(6, 1), 1);
        C.due("a quarter", Checks.of("burn 75;").holds(3, 1), 64);
    }

    private static void chance() {
        BellPulls x = Checks.of(CHANCY + "3;lamp b;");
        C.due("seed 0", x.chance(0, 1, 0), 5);
        C.due("seed 42", x.chance(42, 1, 0), 2);
        C.due("the highest seed", x.chance(2147483647, 1, 0), 5);
        C.due("three minutes", x.chance(0, 3, 0), 6);
        C.due("three minutes", x.chance(7, 3, 0), 4);
        C.due("another lamp", x.chance(0, 3, 1), 0);
        C.due("seed -1", x.chance(-1, 1, 0), -1);
        C.due("n 0", x.chance(1, 0, 0), -1);
        C.due("n 100", x.chance(1, 100, 0), -1);
        C.due("n 99", x.chance(1, 99, 0), 10);
        C.due("lamp 2", x.chance(1, 1, 2), -1);
        C.due("lamp -1", x.chance(1, 1, -1), -1);
        C.due("all stays", x.evening(2), 0);
        BellPulls y = Checks.of("lamp a;lit a;burn 30;seed 42;");
        y.chance(0, 5, 0);
        y.go(7);
        C.due("numbers go on from the seed told", y.evening(2), 0);
        y.go(1);
        C.due("the eighth is 0", y.evening(2), 1);
        C.due("burnt already", y.chance(42, 1, 0), 10);
    }

    private static void tried() {
        BellPulls x = Checks.of("lamp a;lamp b;lamp c;pull p 1 a;pull q 1 b;lit c;ring p 1;ring p 2;ring q 2;ring p 3;"
                + "mend 3;law stick cost;law fate (age >= 2) * 50;");
        // As it goes: minute 1 a on, p stuck; 2 p in vain, b on, a and c burn out (c in 1); 3 mended, a off.
        C.due("as it goes", x.ahead(3, 0), 1);
        C.due("nothing burns out", x.tried(0, 0, 3), 3);
        C.due("nothing sticks", x.tried(1, 0, 3), 1);
        C.due("p isn't rung", x.tried(2, 0, 3), 1);
        C.due("q isn't rung", x.tried(2, 1, 3), 0);
        C.due("no mending", x.tried(3, 0, 4), 0);
        C.due("as it goes", x.ahead(4, 0), 0);
        C.due("n 0", x.tried(0, 0, 0), 1);
        C.due("n 201", x.tried(0, 0, 201), -1);
        C.due("n -1", x.tried(0, 0, -1), -1);
        C.due("what 5", x.tried(5, 0, 1), -1);
        C.due("what -1", x.tried(-1, 0, 1), -1);
        C.due("i 1 of 0", x.tried(0, 1, 1), -1);
        C.due("i -1 of 4", x.tried(4, -1, 1), -1);
        C.due("pull 2", x.tried(2, 2, 1), -1);
        C.due("pull -1", x.tried(2, -1, 1), -1);
        C.due("all stays", x.count(4), 0);
        BellPulls y = Checks.of("lamp a;lamp b;lit a;pull p 1 b;law stick 1;ring p 1;burn 0;law fate (minute = 0) * 100;mend 2;lamp c;pull q 1 c;ring q 3;ring q 3;");
        y.ring(0);
        y.go(1);
        // Now a is burnt, b on and burnt, p stuck.
        C.due("shown", y.count(5), 0);
        C.due("all free and sound", y.tried(4, 0, 0), 2);
        C.due("p rings then", y.tried(4, 0, 1), 1);
        C.due("mended", y.tried(0, 0, 2), 2);
        C.due("not mended", y.tried(3, 0, 2), 0);
        C.due("q once", y.tried(0, 0, 3), 3);
        C.due("q twice", y.tried(1, 0, 3), 2);
        C.due("what is stuck stays so", y.tried(1, 0, 1), 0);
        C.due("nothing mended by trying", y.count(8), 1);
    }

    private static void undo() {
        BellPulls x = Checks.of("lamp a;pull p 5 a;law stick worn >= 2;lit a;burn 100;");
        C.due("none", x.undo(), -1);
        x.ring(0);
        x.ring(0);
        C.due("stuck", x.count(8), 1);
        x.mend();
        x.tie(0, 0);
        C.due("four", x.count(14), 4);
        C.due("the tie", x.undo(), 3);
        C.due("tied", x.pull(0, 3), 1);
        C.due("the mending", x.undo(), 2);
        C.due("stuck again", x.count(8), 1);
        C.due("the ring", x.undo(), 1);
        C.due("free", x.count(8), 0);
        C.due("worn", x.pull(0, 2), 1);
        C.due("toll", x.count(9), 5);
        C.due("off", x.evening(1), 0);
        C.due("go 0", x.go(0), 0);
        C.due("no minute went by", x.count(14), 1);
        C.due("go 201", x.go(201), -1);
        C.due("the first ring", x.undo(), 0);
        C.due("on", x.evening(1), 1);
        C.due("worn", x.pull(0, 2), 0);
        C.due("toll", x.count(9), 0);
        C.due("none", x.undo(), -1);
        x.ring(0);
        x.go(1);
        C.due("a minute went by", x.undo(), -1);
        C.due("none", x.count(14), 0);
        BellPulls y = Checks.of("lamp a;pull p 1 a;");
        for (int i = 0; i < 23; i++) {
            y.ring(0);
        }
        C.due("20 at most", y.count(14), 20);
        for (int i = 19; i >= 0; i--) {
            C.due("undo", y.undo(), i);
        }
        C.due("none", y.undo(), -1);
        C.due("toll of the first three", y.count(9), 3);
        C.due("on by them", y.evening(1), 1);
        BellPulls z = Checks.of("lamp a;lit a;burn 100;");
        z.go(1);
        z.mend();
        C.due("sound", z.evening(0), 1);
        z.undo();
        C.due("burnt again", z.evening(2), 1);
    }

    private static void images() {
        BellPulls x = Checks.of("lamp a;lamp b;pull p 5 a;lit b;law stick worn = 2;ring p 2;ring p 3;burn 30;seed 42;");
        C.due("none", x.back(), -1);
        x.go(1);
        x.tie(0, 1);
        C.due("keep", x.keep(), 1);
        x.note(0, 0, true);
        x.ring(0);
        x.ring(0);
        x.tie(0, 0);
        x.go(9);
        int burnt = x.evening(2);
        C.due("back", x.back(), 1);
        C.due("minute", x.count(4), 1);
        C.due("nothing to undo", x.undo(), -1);
        C.due("free", x.count(8), 0);
        C.due("ties", x.pull(0, 3), 3);
        C.due("worn", x.pull(0, 2), 0);
        C.due("toll", x.count(9), 0);
        C.due("vain", x.count(10), 0);
        C.due("on", x.evening(1), 2);
        C.due("sound", x.evening(2), 0);
        C.due("age", x.lamp(1, 2), 1);
        C.due("notes stay", x.count(12), 1);
        x.ring(0);
        x.ring(0);
        x.tie(0, 0);
        C.due("again", x.go(9), 10);
        C.due("the same numbers", x.evening(2), burnt);
        C.due("back once more", x.back(), 1);
        x.go(2);
        C.due("another in its place", x.keep(), 3);
        x.go(2);
        C.due("back to it", x.back(), 3);
        x.ring(0);
        C.due("keeping leaves what can be undone", x.keep(), 3);
        C.due("it can be", x.undo(), 0);
        x.ring(0);
        C.due("back", x.back(), 3);
        C.due("nothing to undo then", x.undo(), -1);
    }

    private static void count() {
        BellPulls x = Checks.of("lamp a;lamp b;lamp c;pull p 5 a b;pull q 1 c;lit a;lit c;ring p 0;ring p 0;ring q 1;"
                + "law stick cost = 5;law fate (ties = 1) * (minute = 1) * 100;");
        x.go(2);
        x.tie(1, 0);
        x.note(0, 0, true);
        x.strike(0);
        x.note(1, 0, true);
        x.known(2);
        int[] due = {3, 2, 3, 12, 2, 0, 1, 1, 1, 6, 1, 4, 3, 2, 1};
        for (int what = 0; what < due.length; what++) {
            C.due("count(" + what + ")", x.count(what), due[what]);
        }
        x.mend();
        C.due("shown", x.count(5), 1);
        x.known(-1);
        C.due("known by all", x.count(13), 3);
        C.due("what 15", x.count(15), -1);
        C.due("what -1", x.count(-1), -1);
    }
}
