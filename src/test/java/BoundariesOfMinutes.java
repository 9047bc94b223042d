import java.math.BigInteger;

/** Boundary cases of ringing and of MINUTES (the second part of 'Terms') and of promises 6 to 13. */
final class BoundariesOfMinutes {
    private static final long ERROR = Long.MIN_VALUE;
    private static final String FOURTEEN = "lamp a;lamp b;lamp c;lamp d;lamp e;lamp f;lamp g;lamp h;lamp i;lamp j;lamp k;"
            + "lamp l;lamp m;lamp n;lit a;lit b;lit c;lit d;lit e;lit f;lit g;lit h;lit i;lit j;lit k;lit l;lit m;lit n;";
    private static final String THREE = "lamp a;lamp b;lamp c;lit a;lit b;lit c;";

    private final Boundaries b;

    BoundariesOfMinutes(Boundaries b) {
        this.b = b;
    }

    void all() {
        rungLamps();
        rungToll();
        rungStick();
        minuteMending();
        minuteLamps();
        fates();
        names();
        values();
        errors();
        numbers();
        asItGoes();
        lamp();
        pull();
        evening();
        law();
        ring();
        tie();
        mend();
        go();
    }

    private void rungLamps() {
        b.at("Terms 2", "SHOWN: ON and sound", () -> {
            BellPulls x = Checks.of("lamp a;lamp b;lamp c;lamp d;pull p 1 b d;lit a;lit c;lit d;pull q 1 c;"
                    + "law fate (ties = 1) * 100;");
            // Then a and b are on and sound, c is on and burnt, d is off and burnt.
            x.go(1);
            x.ring(0);
            x.ring(0);
            x.ring(0);
            b.due("on", x.evening(1), 1 + 2 + 4);
            b.due("burnt", x.evening(2), 4 + 8);
            b.due("shown", x.evening(0), 1 + 2);
            b.due("how many", x.count(5), 2);
        });
        b.at("Terms 2", "RUNG: if it is FREE, all LAMPS it is TIED to, BURNT ones too, are ON if they were OFF, OFF if they were ON", () -> {
            BellPulls x = Checks.of(FOURTEEN + "pull p 1 a b c d e f g h i j k l m n;pull q 1;pull r 1 n;");
            x.ring(0);
            b.due("all are off", x.evening(1), 0);
            x.ring(1);
            b.due("tied to none", x.evening(1), 0);
            x.ring(2);
            b.due("the last", x.evening(1), 8192);
            x.ring(0);
            b.due("all but the last", x.evening(1), 8191);
            BellPulls y = Checks.of("lamp a;lamp b;pull p 1 a b;lit a;burn 100;");
            y.go(1);
            y.ring(0);
            b.due("a burnt one is off, too", y.evening(1), 2);
            y.ring(0);
            b.due("and on", y.evening(1), 1);
            b.due("but burnt", y.evening(2), 1);
        });
    }

    private void toll(String law, int due) {
        BellPulls x = Checks.of("pull p 7;" + law);
        x.ring(0);
        b.due("toll by " + law, x.count(9), due);
    }

    private void rungToll() {
        b.at("Terms 2", "TOLL is more by E of toll (0 .. 999", () -> {
            toll("law toll 0;", 0);
            toll("law toll 0 - 1;", 0);
            toll("law toll 0 - 9999 * 9999;", 0);
            toll("law toll 1;", 1);
            toll("law toll 998;", 998);
            toll("law toll 999;", 999);
            toll("law toll 1000;", 999);
            toll("law toll 9999 * 9999 * 9999;", 999);
            // As an int, this would be 1.
            toll("law toll 8192 * 8192 * 64 + 1;", 999);
        });
        b.at("Terms 2", "COST without, with an ERROR)", () -> {
            toll("", 7);
            toll("law stick 0;law fate 3;", 7);
            toll("law toll 1 / 0;", 7);
            toll("law toll 9999 * 9999 * 9999 * 9999;", 7);
            BellPulls x = Checks.of("pull p 0;pull q 99;");
            x.ring(0);
            b.due("cost 0", x.count(9), 0);
            x.ring(1);
            b.due("cost 99", x.count(9), 99);
        });
        b.at("Terms 2", "99999 at most", () -> {
            BellPulls x = Checks.of("pull p 99;law toll 999 - (worn = 100) * 900;");
            for (int i = 0; i < 100; i++) {
                x.ring(0);
            }
            b.due("a hundred times", x.count(9), 99900);
            x.ring(0);
            b.due("just so many", x.count(9), 99999);
            x.ring(0);
            b.due("no more", x.count(9), 99999);
            BellPulls y = Checks.of("pull p 99;law toll 999;ring p 0;");
            for (int i = 0; i < 100; i++) {
                y.ring(0);
            }
            y.go(1);
            b.due("by a ring told", y.count(9), 99999);
        });
        b.at("Terms 2", "it is WORN once more, 999 at most", () -> {
            BellPulls x = Checks.of("pull p 1;pull q 1;");
            b.due("at first", x.pull(0, 2), 0);
            x.ring(0);
            b.due("once", x.pull(0, 2), 1);
            b.due("not the other one", x.pull(1, 2), 0);
            // It takes more calls than are promised; this class goes on after them as before.
            for (int i = 1; i < 999; i++) {
                x.ring(0);
            }
            b.due("999 times", x.pull(0, 2), 999);
            x.ring(0);
            b.due("1000 times", x.pull(0, 2), 999);
        });
    }

    private void sticks(String law, int due) {
        BellPulls x = Checks.of("lamp a;pull p 7 a;" + law);
        x.ring(0);
        b.due("stuck by " + law, x.pull(0, 1), due);
    }

    private void rungStick() {
        b.at("Terms 2", "if E of stick (behind that: shown as turned, worn with this time) isn't 0", () -> {
            sticks("law stick 1;", 1);
            sticks("law stick 0;", 0);
            sticks("law stick 0 - 1;", 1);
            sticks("law stick 9999 * 9999;", 1);
            // As an int, this would be 0.
            sticks("law stick 8192 * 8192 * 64;", 1);
            sticks("law stick shown = 1;", 1);
            sticks("law stick shown = 0;", 0);
            sticks("law stick worn = 1;", 1);
            sticks("law stick worn = 0;", 0);
        });
        b.at("Terms 2", "(0 without, with an ERROR), it is STUCK", () -> {
            sticks("", 0);
            sticks("law toll 1;law fate 1;", 0);
            sticks("law stick 1 / 0;", 0);
            sticks("law stick 9999 * 9999 * 9999 * 9999;", 0);
            sticks("law stick 1 or 1 / 0;", 0);
        });
        b.at("Terms 2", "if it is STUCK already, it was rung in VAIN, and nothing comes of it", () -> {
            BellPulls x = Checks.of("lamp a;pull p 7 a;law stick 1;ring p 0;ring p 0;ring p 1;");
            x.go(1);
            b.due("in vain", x.count(10), 1);
            b.due("on", x.evening(1), 1);
            b.due("toll", x.count(9), 7);
            b.due("worn", x.pull(0, 2), 1);
            x.go(1);
            b.due("in vain again", x.count(10), 2);
            b.due("on", x.evening(1), 1);
            b.due("toll", x.count(9), 7);
            b.due("worn", x.pull(0, 2), 1);
            b.due("stuck", x.pull(0, 1), 1);
        });
    }

    private void minuteMending() {
        b.at("Terms 2", "(1) if a mending is told of it: no PULL is STUCK, no LAMP BURNT (AGES, what is ON stay).", () -> {
            BellPulls x = Checks.of("lamp a;lamp b;pull p 7 b;lit a;law stick 1;law fate (minute < 3) * 100;mend 3;ring p 3;");
            x.go(2);
            x.ring(0);
            x.go(1);
            b.due("burnt", x.evening(2), 3);
            b.due("stuck", x.count(8), 1);
            b.due("ages", x.lamp(0, 2) * 10 + x.lamp(1, 2), 11);
            x.go(1);
            b.due("sound", x.evening(2), 0);
            b.due("the ring behind it isn't in vain", x.count(10), 0);
            b.due("on, but for what was rung", x.evening(1), 1);
            b.due("worn", x.pull(0, 2), 2);
            b.due("the age goes on", x.lamp(0, 2), 2);
            b.due("the age stays", x.lamp(1, 2), 1);
        });
        b.at("Terms 2", "(2) RINGS of this MINUTE, by their numbers: the PULL is RUNG.", () -> {
            BellPulls x = Checks.of("lamp a;pull p 1 a;pull q 2;ring q 1;ring p 1;ring q 1;ring q 0;ring q 2;law toll shown * 10 + cost;");
            x.go(1);
            b.due("those of the first", x.count(9), 2);
            x.go(1);
            b.due("q, p, then q with a lamp shown", x.count(9), 2 + 2 + 1 + 12);
            x.go(1);
            b.due("those of the third", x.count(9), 17 + 12);
            x.go(1);
            b.due("none", x.count(9), 29);
        });
        b.at("Terms 2", "Then it is the next MINUTE.", () -> {
            BellPulls x = Checks.of("lamp a;pull p 1 a;ring p 1;law toll minute;law fate (minute = 1) * 100;");
            x.go(1);
            b.due("minute", x.count(4), 1);
            b.due("not rung in it", x.count(9), 0);
            x.go(1);
            b.due("rung in it", x.count(9), 1);
            b.due("burnt in it", x.count(7), 1);
            b.due("minute", x.count(4), 2);
        });
    }

    private void minuteLamps() {
        b.at("Terms 2", "(3) by numbers each LAMP that is SHOWN: its AGE is one MINUTE more", () -> {
            BellPulls x = Checks.of("lamp a;lamp b;pull p 1 a b;lit a;ring p 1;");
            x.go(1);
            b.due("on", x.lamp(0, 2), 1);
            b.due("off", x.lamp(1, 2), 0);
            x.go(1);
            b.due("turned off in this minute", x.lamp(0, 2), 1);
            b.due("turned on in this minute", x.lamp(1, 2), 1);
        });
        b.at("Terms 2", "999 at most (of others it stays)", () -> {
            BellPulls x = Checks.of("lamp a;lamp b;lamp c;lit a;lit c;pull p 1 c;law fate (ties = 1) * (minute >= 4) * 100;");
            for (int i = 0; i < 4; i++) {
                x.go(200);
            }
            x.go(198);
            b.due("998", x.lamp(0, 2), 998);
            x.go(1);
            b.due("999", x.lamp(0, 2), 999);
            x.go(1);
            b.due("no more", x.lamp(0, 2), 999);
            x.go(200);
            b.due("no more", x.lamp(0, 2), 999);
            b.due("of one that is off", x.lamp(1, 2), 0);
            b.due("of one that burnt out in its fifth minute", x.lamp(2, 2), 5);
            // A law sees no more, either.
            BellPulls y = Checks.of("lamp a;lit a;law fate (age > 999) * 100;");
            for (int i = 0; i < 6; i++) {
                y.go(200);
            }
            b.due("not above 999 by a law", y.count(7), 0);
        });
        b.at("Terms 2", "it is BURNT (it stays ON till it is turned over)", () -> {
            BellPulls x = Checks.of("lamp a;pull p 1 a;lit a;burn 100;ring p 3;ring p 4;");
            x.go(3);
            b.due("on", x.lamp(0, 0), 1);
            b.due("burnt", x.lamp(0, 1), 1);
            x.go(1);
            b.due("off", x.lamp(0, 0), 0);
            b.due("burnt still", x.lamp(0, 1), 1);
            x.go(1);
            b.due("on", x.lamp(0, 0), 1);
            b.due("burnt still", x.lamp(0, 1), 1);
            b.due("its age", x.lamp(0, 2), 1);
        });
    }

    private void burnt(String law, int due) {
        BellPulls x = Checks.of(THREE + law);
        x.go(1);
        b.due("burnt by " + law, x.evening(2), due);
    }

    private void fates() {
        b.at("Terms 2", "if a number modulo 100 (no number, if E is 0 or 100) is below E of fate", () -> {
            int[] drawn = numbers(42, 3);
            // The second lamp takes the first number, if the first one takes none.
            String seen = "seed 42;pull p 1 b;law fate (ties = 1) * ";
            burnt(seen + drawn[0] + ";", 0);
            burnt(seen + (drawn[0] + 1) + ";", 2);
            burnt(seen + drawn[0] + " + (ties = 0) * 100;", 5);
            burnt(seen + (drawn[0] + 1) + " + (ties = 0) * 100;", 7);
            burnt(seen + drawn[1] + " + (ties = 0);", 0);
            burnt(seen + (drawn[1] + 1) + " + (ties = 0);", 2);
            int bits = (drawn[0] < 99 ? 1 : 0) + (drawn[2] < 99 ? 4 : 0);
            burnt(seen + drawn[1] + " + (ties = 0) * 99;", bits);
            burnt(seen + (drawn[1] + 1) + " + (ties = 0) * 99;", bits + 2);
        });
        b.at("Terms 2", "(age with this MINUTE, shown, out as LAMPS ahead of it were burnt", () -> {
            burnt("law fate (age = 1) * 100;", 7);
            burnt("law fate (age = 0) * 100;", 0);
            burnt("law fate (shown = 3) * 100;", 1);
            burnt("law fate (shown >= 2) * 100;", 3);
            burnt("law fate (shown = 2) * 100;", 0);
            burnt("law fate (out = 0) * 100;", 1);
            burnt("law fate (out <= 1) * 100;", 3);
            burnt("law fate (out <= 2) * 100;", 7);
            burnt("law fate (out = 1) * 100;", 0);
        });
        b.at("Terms 2", "0 .. 100; burn without, with an ERROR)", () -> {
            burnt("law fate 0 - 1;burn 100;", 0);
            burnt("law fate 0;burn 100;", 0);
            burnt("law fate 100;", 7);
            burnt("law fate 101;", 7);
            burnt("law fate 9999 * 9999 * 9999;", 7);
            // As an int, this would be 0.
            burnt("law fate 8192 * 8192 * 64;", 7);
            burnt("burn 100;", 7);
            burnt("", 0);
            burnt("law fate 1 / 0;burn 100;", 7);
            burnt("law fate 1 / 0;", 0);
            burnt("law fate 9999 * 9999 * 9999 * 9999;burn 100;", 7);
            burnt("law toll 100;law stick 100;", 0);
            // Below 0 and above 100 take no number: the one that is drawn goes to b.
            int first = numbers(42, 1)[0];
            burnt("seed 42;pull p 1 b;law fate (ties = 1) * " + (first + 1) + " - (ties = 0);", 2);
            burnt("seed 42;pull p 1 b;law fate (ties = 1) * " + first + " - (ties = 0);", 0);
            burnt("seed 42;pull p 1 b;law fate (ties = 1) * " + (first + 1) + " + (ties = 0) * 101;", 7);
            burnt("seed 42;pull p 1 b;law fate (ties = 1) * " + first + " + (ties = 0) * 101;", 5);
        });
    }

    /** What the laws answer of the first pull, of the first pull, of the first lamp. */
    private void laws(BellPulls x, String name, long toll, long stick, long fate) {
        b.due(name + " of toll", x.law(0, 0), toll);
        b.due(name + " of stick", x.law(1, 0), stick);
        b.due(name + " of fate", x.law(2, 0), fate);
    }

    private BellPulls withLaws(String name) {
        return Checks.of("lamp a;lamp b;lamp c;pull p 99 a b;pull q 5 a b c;pull r 1 a;lit a;lit c;mend 3;"
                + "law toll " + name + ";law stick " + name + ";law fate " + name + ";");
    }

    private void names() {
        b.at("Terms 2", "cost: COST of the PULL (of fate 0)", () -> laws(withLaws("cost"), "cost", 99, 99, 0));
        b.at("Terms 2", "worn: how often it is WORN (of fate 0)", () -> {
            BellPulls x = withLaws("worn");
            laws(x, "worn", 0, 0, 0);
            x.ring(0);
            laws(x, "worn", 1, 1, 0);
            b.due("toll ahead of it", x.count(9), 0);
            b.due("stick behind it", x.count(8), 1);
        });
        b.at("Terms 2", "shown: how many LAMPS are SHOWN", () -> {
            BellPulls x = withLaws("shown");
            laws(x, "shown", 2, 2, 2);
            x.ring(0);
            laws(x, "shown", 2, 2, 2);
            x.ring(2);
            laws(x, "shown", 3, 3, 3);
            BellPulls none = Checks.of("lamp a;pull p 1;law toll shown;law stick shown;law fate shown;");
            laws(none, "none", 0, 0, 0);
        });
        b.at("Terms 2", "ties: to how many LAMPS the PULL is TIED (of fate how many PULLS are TIED to the LAMP)", () -> {
            BellPulls x = withLaws("ties");
            laws(x, "ties", 2, 2, 3);
            b.due("of another lamp", x.law(2, 2), 1);
            x.ring(1);
            laws(x, "ties, one stuck", 2, 2, 3);
            x.tie(0, 0);
            laws(x, "ties, one less", 1, 1, 2);
            x.tie(0, 1);
            laws(x, "no ties", 0, 0, 2);
        });
        b.at("Terms 2", "out: how many LAMPS are BURNT", () -> {
            BellPulls x = Checks.of("lamp a;lamp b;lit a;lit b;pull p 1 a;law toll out;law stick out;law fate out + (minute = 0) * 100;");
            laws(x, "out", 0, 0, 100);
            x.go(1);
            laws(x, "out", 2, 2, 2);
            x.ring(0);
            laws(x, "out, one off", 2, 2, 2);
        });
        b.at("Terms 2", "age: AGE of the LAMP (of toll, stick 0)", () -> {
            BellPulls x = withLaws("age");
            laws(x, "age", 0, 0, 0);
            x.go(1);
            laws(x, "age", 0, 0, 1);
            b.due("of one that is off", x.law(2, 1), 0);
        });
        b.at("Terms 2", "minute: the MINUTE", () -> {
            BellPulls x = withLaws("minute");
            laws(x, "minute", 0, 0, 0);
            for (int i = 0; i < 45; i++) {
                x.go(200);
            }
            laws(x, "the last minute", 9000, 9000, 9000);
        });
        b.at("Terms 2", "all as they are by then (of toll ahead of turning)", () -> {
            BellPulls x = Checks.of("lamp a;lamp b;pull p 5 a b;lit a;lit b;law toll shown * 10 + worn;law stick shown;");
            x.ring(0);
            b.due("both shown", x.count(9), 20);
            b.due("none shown", x.count(8), 0);
            x.ring(0);
            b.due("none shown", x.count(9), 21);
            b.due("both shown", x.count(8), 1);
        });
    }

    private void value(String e, long due) {
        b.due(e, Checks.of("pull p 1;law toll " + e + ";").law(0, 0), due);
    }

    private void values() {
        b.at("Terms 2", "VALUES are longs", () -> {
            value("9999 * 9999", 99980001L);
            value("9999 * 9999 * 9999", 999700029999L);
            value("0 - 9999 * 9999 * 9999", -999700029999L);
            value("8192 * 8192 * 64", 1L << 32);
            value("8192 * 8192 * 64 = 0", 0);
            value("8192 * 8192 * 32 > 0", 1);
        });
        b.at("Terms 2", "comparisons, and, or, not are 1 or 0", () -> {
            String[] signs = {"<", "<=", "=", "<>", ">=", ">"};
            int[][] due = {{1, 0, 0}, {1, 1, 0}, {0, 1, 0}, {1, 0, 1}, {0, 1, 1}, {0, 0, 1}};
            for (int i = 0; i < signs.length; i++) {
                for (int left = 6; left <= 8; left++) {
                    value(left + signs[i] + "7", due[i][left - 6]);
                    value("0 - 8 + " + left + signs[i] + "0 - 1", due[i][left - 6]);
                }
            }
        });
        b.at("Terms 2", "(what isn't 0 is as 1, both sides are worked out)", () -> {
            value("5 and 7", 1);
            value("0 - 5 and 0 - 7", 1);
            value("5 and 0", 0);
            value("0 and 5", 0);
            value("0 and 0", 0);
            value("5 or 7", 1);
            value("0 or 0 - 7", 1);
            value("5 or 0", 1);
            value("0 or 0", 0);
            value("not 5", 0);
            value("not 0", 1);
            value("not (0 - 5)", 0);
            value("not not 5", 1);
            // Bits play no part in it.
            value("1 and 2", 1);
            value("0 and 1 / 0", ERROR);
            value("1 or 1 / 0", ERROR);
            value("1 / 0 and 0", ERROR);
            value("1 / 0 or 1", ERROR);
        });
        b.at("Terms 2", "/ is cut towards 0", () -> {
            value("7 / 2", 3);
            value("(0 - 7) / 2", -3);
            value("7 / (0 - 2)", -3);
            value("(0 - 7) / (0 - 2)", 3);
            value("1 / 2", 0);
            value("(0 - 1) / 2", 0);
            value("0 / 5", 0);
            value("9999 / 9999", 1);
            value("9998 / 9999", 0);
        });
    }

    private void errors() {
        String most = "1000 * 1000 * 1000 * 1000";
        b.at("Terms 2", "ERROR: / by 0", () -> {
            value("1 / 0", ERROR);
            value("0 / 0", ERROR);
            value("(0 - 1) / 0", ERROR);
            value("1 / cost", 1);
            value("1 / (cost - 1)", ERROR);
            value("0 * (1 / 0)", ERROR);
            value("not 1 / 0", ERROR);
            value("1 / 0 = 1 / 0", ERROR);
        });
        b.at("Terms 2", "a value above 10 to the 12", () -> {
            value(most, 1000000000000L);
            value(most + " + 0", 1000000000000L);
            value(most + " + 1", ERROR);
            value("1 + " + most, ERROR);
            value(most + " + 1 - 1", ERROR);
            value(most + " - (0 - 1)", ERROR);
            value(most + " * 1", 1000000000000L);
            value(most + " * 2", ERROR);
            value(most + " * 2 / 2", ERROR);
            value("(0 - " + most + ") * (0 - 1)", 1000000000000L);
            value("(0 - " + most + ") * (0 - 2)", ERROR);
            value(most + " / 1", 1000000000000L);
            // More than a long holds; this one would wrap round to 0.
            value("(8192 * 8192 * 8192) * (8192 * 8192 * 8192)", ERROR);
            value("(9999 * 9999 * 9999) * (9999 * 9999 * 9999)", ERROR);
            value(most + " * 0", 0);
            value("0 * (" + most + ")", 0);
        });
        b.at("Terms 2", "or below 0 by more than that", () -> {
            value("0 - " + most, -1000000000000L);
            value("0 - " + most + " - 0", -1000000000000L);
            value("0 - " + most + " - 1", ERROR);
            value("0 - " + most + " - 1 + 1", ERROR);
            value("0 - 1 - " + most, ERROR);
            value("(0 - " + most + ") + (0 - 1)", ERROR);
            value(most + " * (0 - 1)", -1000000000000L);
            value(most + " * (0 - 2)", ERROR);
            value("(0 - 2) * (" + most + ")", ERROR);
            value("(8192 * 8192 * 8192) * (0 - 8192 * 8192 * 8192)", ERROR);
        });
    }

    /** By the document's words, with numbers that have no limit: the first ones of a seed, modulo 100. */
    static int[] numbers(long seed, int many) {
        int[] drawn = new int[many];
        BigInteger last = BigInteger.valueOf(seed);
        for (int i = 0; i < many; i++) {
            last = last.multiply(BigInteger.valueOf(1103515245)).add(BigInteger.valueOf(12345)).mod(BigInteger.TWO.pow(31));
            drawn[i] = last.divide(BigInteger.valueOf(65536)).mod(BigInteger.valueOf(100)).intValueExact();
        }
        return drawn;
    }

    private void numbers() {
        b.at("Terms 2", "Numbers are the last one (at first the seed) times 1103515245 and 12345, without what is above 31 bits, by 65536.", () -> {
            for (int seed : new int[] {0, 1, 2, 42, 65535, 65536, 99998, 99999}) {
                int[] drawn = numbers(seed, 14);
                for (int burn : new int[] {1, 2, 10, 33, 50, 77, 98, 99}) {
                    BellPulls x = Checks.of(FOURTEEN + "burn " + burn + ";seed " + seed + ";");
                    x.go(1);
                    int due = 0;
                    for (int lamp = 0; lamp < 14; lamp++) {
                        due |= drawn[lamp] < burn ? 1 << lamp : 0;
                    }
                    b.due("burnt by " + burn + " of seed " + seed, x.evening(2), due);
                }
            }
        });
        b.at("Terms 2", "Numbers are the last one", () -> {
            // From minute to minute they go on, also when a lamp takes none: 200 of them for one lamp.
            int[] drawn = numbers(7, 200);
            int first = 0;
            while (drawn[first] >= 2) {
                first++;
            }
            BellPulls x = Checks.of("lamp a;lit a;burn 2;seed 7;");
            x.go(first);
            b.due("sound by then", x.count(7), 0);
            x.go(1);
            b.due("burnt by the first below 2", x.count(7), 1);
            BellPulls y = Checks.of("lamp a;lit a;seed 7;law fate (minute / 2 * 2 = minute) * 2;");
            y.go(2 * first);
            b.due("sound by twice that", y.count(7), 0);
            y.go(1);
            b.due("burnt by it", y.count(7), 1);
        });
    }

    private void asItGoes() {
        b.at("Terms 2", "AS IT GOES: without numbers: a LAMP is BURNT, if E of fate is 50 at least.", () -> {
            String[] laws = {"burn 49;", "burn 50;", "law fate 49;", "law fate 50;", "law fate 0 - 1;burn 99;", "law fate 1000;",
                "law fate 1 / 0;burn 50;", "law fate 1 / 0;burn 49;", "law fate 0;burn 100;", ""};
            int[] due = {0, 3, 0, 3, 0, 3, 3, 0, 0, 0};
            for (int i = 0; i < laws.length; i++) {
                b.due("burnt by " + laws[i], Checks.of(THREE + laws[i]).ahead(1, 3), due[i]);
            }
            // No number is taken by it: the first of seed 0 is still to come.
            BellPulls x = Checks.of("lamp a;lit a;burn 1;");
            x.ahead(200, 0);
            x.dark(0);
            x.tried(3, 0, 200);
            x.go(1);
            b.due("burnt by the first number", x.count(7), 1);
            // It goes so behind what was drawn, too.
            for (int burn : new int[] {1, 49, 50, 99}) {
                BellPulls y = Checks.of(FOURTEEN + "pull p 1;burn " + burn + ";");
                for (int i = 0; i < 4; i++) {
                    drawn(y, i);
                    b.due("ahead, behind " + i + ", by " + burn, y.ahead(1, 3), burn < 50 ? 0 : 14);
                    drawn(y, i);
                    b.due("dark, behind " + i + ", by " + burn, y.dark(0), burn < 50 ? -2 : 1);
                    for (int what = 0; what < 5; what++) {
                        drawn(y, i);
                        b.due("tried " + what + ", behind " + i + ", by " + burn, y.tried(what, 0, 1), burn < 50 || what == 0 ? 14 : 0);
                    }
                }
            }
        });
    }

    /** What goes by numbers, but leaves all lamps as they were. */
    private static void drawn(BellPulls x, int how) {
        switch (how) {
            case 0:
                x.chance(7, 9, 0);
                break;
            case 1:
                x.ring(0);
                break;
            case 2:
                x.keep();
                x.go(5);
                x.back();
                break;
            default:
                x.go(0);
        }
    }

    private void lamp() {
        BellPulls x = Checks.of("lamp a;lamp b;pull p 1 b;lit a;law stick 1;");
        x.ring(0);
        b.at("Promise 6", "what 0 whether ON, 1 BURNT (1, 0), 2 AGE", () -> {
            BellPulls y = Checks.of("lamp a;lamp b;lit a;burn 100;");
            y.go(1);
            int[][] due = {{1, 1, 1}, {0, 0, 0}};
            for (int lamp = 0; lamp < 2; lamp++) {
                for (int what = 0; what < 3; what++) {
                    b.due("lamp(" + lamp + ", " + what + ")", Checks.lamp(y, lamp, what), due[lamp][what]);
                }
            }
            BellPulls z = Checks.of("lamp a;lamp b;lit b;burn 100;");
            z.go(1);
            for (int lamp = 0; lamp < 2; lamp++) {
                for (int what = 0; what < 3; what++) {
                    b.due("the second lit: lamp(" + lamp + ", " + what + ")", Checks.lamp(z, lamp, what), lamp);
                }
            }
        });
        b.at("Promise 6", "3 PULLS (bits) TIED to it, STUCK ones too", () -> {
            b.due("stuck", x.count(8), 1);
            b.due("of one", Checks.lamp(x, 1, 3), 1);
            b.due("of none", Checks.lamp(x, 0, 3), 0);
            b.due("of ten", Checks.lamp(Checks.of("lamp a;pull a 1 a;pull b 1 a;pull c 1 a;pull d 1 a;pull e 1 a;pull f 1 a;"
                    + "pull g 1 a;pull h 1 a;pull i 1 a;pull j 1 a;"), 0, 3), 1023);
        });
        b.at("Promise 6", "IndexOutOfBoundsException: no such LAMP.", () -> {
            b.each("lamp", lamp -> Checks.lamp(x, lamp, 0), -1001, 2, 3, 13, 14, 15, 32, -1, Integer.MIN_VALUE, Integer.MAX_VALUE);
            b.each("both wrong", lamp -> Checks.lamp(x, lamp, 4), -1001, 2, -1);
            b.due("there is none", Checks.lamp(new BellPulls(), 0, 0), -1001);
            BellPulls all = Checks.of(FOURTEEN);
            b.due("the last of fourteen", Checks.lamp(all, 13, 0), 1);
            b.due("behind it", Checks.lamp(all, 14, 0), -1001);
        });
        b.at("Promise 6", "NoSuchElementException: no such what.", () -> {
            for (int lamp = 0; lamp < 2; lamp++) {
                int one = lamp;
                b.each("what", what -> Checks.lamp(x, one, what), -1002, 4, 5, -1, Integer.MIN_VALUE, Integer.MAX_VALUE);
            }
        });
    }

    private void pull() {
        BellPulls x = Checks.of("lamp a;lamp b;pull p 0;pull q 99 a b;law stick cost;");
        x.ring(1);
        b.at("Promise 7", "what 0 COST, 1 whether STUCK (1, 0), 2 how often WORN, 3 LAMPS (bits) it is TIED to", () -> {
            int[][] due = {{0, 0, 0, 0}, {99, 1, 1, 3}};
            for (int pull = 0; pull < 2; pull++) {
                for (int what = 0; what < 4; what++) {
                    b.due("pull(" + pull + ", " + what + ")", x.pull(pull, what), due[pull][what]);
                }
            }
        });
        b.at("Promise 7", "NONE: no such ones.", () -> {
            b.each("pull", pull -> x.pull(pull, 0), -1, 2, 3, 9, 10, 32, -1, Integer.MIN_VALUE, Integer.MAX_VALUE);
            b.each("what", what -> x.pull(0, what), -1, 4, 5, -1, Integer.MIN_VALUE, Integer.MAX_VALUE);
            b.each("what", what -> x.pull(1, what), -1, 4, -1);
            b.due("both", x.pull(2, 4), -1);
            b.each("there is none", pull -> new BellPulls().pull(pull, 0), -1, 0, -1);
        });
    }

    private void evening() {
        b.at("Promise 8", "LAMPS (bits) that are SHOWN (what 0), ON (1), BURNT (2) now", () -> {
            BellPulls x = Checks.of(FOURTEEN + "pull p 1 a;law fate (ties = 0) * 100;");
            b.due("all shown", x.evening(0), 16383);
            b.due("all on", x.evening(1), 16383);
            b.due("none burnt", x.evening(2), 0);
            x.go(1);
            b.due("one shown", x.evening(0), 1);
            b.due("all on", x.evening(1), 16383);
            b.due("the others burnt", x.evening(2), 16382);
            BellPulls none = new BellPulls();
            b.each("of none", none::evening, 0, 0, 1, 2);
        });
        b.at("Promise 8", "NONE for another what", () -> {
            BellPulls x = Checks.of("lamp a;lit a;");
            b.each("what", x::evening, -1, 3, 4, -1, Integer.MIN_VALUE, Integer.MAX_VALUE);
        });
    }

    private void law() {
        String text = "lamp a;pull p 7;pull q 8;";
        b.at("Promise 9", "A law's E now (what 0 toll, 1 stick of a PULL, 2 fate of a LAMP).", () -> {
            BellPulls x = Checks.of(text + "law toll cost;law stick cost + worn * 100;law fate age;lit a;");
            b.due("toll", x.law(0, 1), 8);
            b.due("stick", x.law(1, 1), 8);
            b.due("fate", x.law(2, 0), 0);
            x.ring(1);
            x.go(1);
            b.due("stick now", x.law(1, 1), 108);
            b.due("fate now", x.law(2, 0), 1);
            // What is said of 0 .. 999 and 0 .. 100 is said of ringing and burning out, not of E.
            BellPulls y = Checks.of(text + "law toll 9999;law stick 0 - 9999;law fate 101;");
            b.due("toll", y.law(0, 0), 9999);
            b.due("stick", y.law(1, 0), -9999);
            b.due("fate", y.law(2, 0), 101);
        });
        b.at("Promise 9", "Long.MIN_VALUE: an ERROR", () -> {
            BellPulls x = Checks.of(text + "law toll 1 / 0;law stick 1 / 0;law fate 1 / 0;burn 50;");
            for (int what = 0; what < 3; what++) {
                b.due("law " + what, x.law(what, 0), ERROR);
            }
        });
        b.at("Promise 9", "no such law", () -> {
            BellPulls none = Checks.of(text + "burn 50;");
            BellPulls toll = Checks.of(text + "law toll 1;");
            BellPulls stick = Checks.of(text + "law stick 1;");
            BellPulls fate = Checks.of(text + "law fate 1;");
            for (int what = 0; what < 3; what++) {
                b.due("none told", none.law(what, 0), ERROR);
                b.due("toll told", toll.law(what, 0), what == 0 ? 1 : ERROR);
                b.due("stick told", stick.law(what, 0), what == 1 ? 1 : ERROR);
                b.due("fate told", fate.law(what, 0), what == 2 ? 1 : ERROR);
            }
            for (int what : new int[] {-1, 3, 4, Integer.MIN_VALUE, Integer.MAX_VALUE}) {
                b.due("law " + what, Checks.of(text + "law toll 1;law stick 1;law fate 1;").law(what, 0), ERROR);
            }
        });
        b.at("Promise 9", "no such one", () -> {
            BellPulls x = Checks.of(text + "law toll 1;law stick 1;law fate 1;");
            for (int its : new int[] {-1, 2, 3, 10, 14, 32, Integer.MIN_VALUE, Integer.MAX_VALUE}) {
                for (int what = 0; what < 3; what++) {
                    b.due("law " + what + " of " + its, x.law(what, its), ERROR);
                }
            }
            b.due("there are two pulls", x.law(0, 1), 1);
            b.due("there are two pulls", x.law(1, 1), 1);
            b.due("there is one lamp", x.law(2, 1), ERROR);
        });
    }

    private void ring() {
        b.at("Promise 10", "A PULL is RUNG now (it may stick by it): how many LAMPS are SHOWN", () -> {
            BellPulls x = Checks.of(FOURTEEN + "pull p 1 a b c d e f g h i j k l m n;law stick shown = 14;");
            b.due("none", x.ring(0), 0);
            b.due("all", x.ring(0), 14);
            b.due("stuck by it", x.pull(0, 1), 1);
            BellPulls y = Checks.of("lamp a;lamp b;lit a;pull p 1 b;burn 100;");
            y.go(1);
            b.due("not a burnt one", y.ring(0), 1);
        });
        b.at("Promise 10", "-2: it is STUCK (not in VAIN)", () -> {
            BellPulls x = Checks.of("lamp a;pull p 5 a;law stick 1;");
            x.ring(0);
            b.due("stuck", x.ring(0), -2);
            b.due("not in vain", x.count(10), 0);
            b.due("not worn", x.pull(0, 2), 1);
            b.due("no toll", x.count(9), 5);
            b.due("nothing turned", x.evening(1), 1);
            b.due("nothing to undo", x.count(14), 1);
            BellPulls y = Checks.of("lamp a;pull p 5;pull q 6 a;law stick cost = 6;");
            y.ring(1);
            b.due("the second is stuck", y.ring(1), -2);
            b.due("the first isn't", y.ring(0), 1);
            b.due("the first isn't", y.ring(0), 1);
        });
        b.at("Promise 10", "NONE: no such PULL", () -> {
            BellPulls x = Checks.of("lamp a;lamp b;pull p 5 a;");
            b.each("ring", x::ring, -1, 1, 2, 9, 10, 32, -1, Integer.MIN_VALUE, Integer.MAX_VALUE);
            b.due("no toll", x.count(9), 0);
            b.due("nothing to undo", x.count(14), 0);
            b.each("there is none", new BellPulls()::ring, -1, 0, -1);
        });
    }

    private void tie() {
        b.at("Promise 11", "A PULL, a STUCK one too, comes to be TIED to a LAMP, or is loosed, if it is: whether it is TIED then (1, 0)", () -> {
            BellPulls x = Checks.of(FOURTEEN + "pull p 1 a;law stick 1;");
            b.due("the last", x.tie(0, 13), 1);
            b.due("both", x.pull(0, 3), 8193);
            b.due("the first", x.tie(0, 0), 0);
            b.due("the last is left", x.pull(0, 3), 8192);
            b.due("nothing is turned", x.evening(1), 16383);
            x.ring(0);
            b.due("of a stuck one", x.tie(0, 0), 1);
            b.due("of a stuck one", x.tie(0, 0), 0);
            b.due("none is left", x.tie(0, 13), 0);
            b.due("ties", x.count(11), 0);
            b.due("stuck still", x.count(8), 1);
        });
        b.at("Promise 11", "NONE: no such ones", () -> {
            BellPulls x = Checks.of("lamp a;lamp b;pull p 1 a;");
            b.each("pull", pull -> x.tie(pull, 0), -1, 1, 2, 10, 32, -1, Integer.MIN_VALUE, Integer.MAX_VALUE);
            b.each("lamp", lamp -> x.tie(0, lamp), -1, 2, 3, 14, 32, -1, Integer.MIN_VALUE, Integer.MAX_VALUE);
            b.due("both", x.tie(1, 2), -1);
            b.due("ties stay", x.count(11), 1);
            b.due("nothing to undo", x.count(14), 0);
        });
    }

    private void mend() {
        b.at("Promise 12", "No PULL is STUCK, no LAMP BURNT from now on (as in (1)): true", () -> {
            BellPulls x = Checks.of("lamp a;lit a;pull p 1;law stick 1;burn 100;");
            x.ring(0);
            b.due("only stuck", x.mend(), true);
            b.due("free", x.count(8), 0);
            x.go(1);
            b.due("only burnt", x.mend(), true);
            b.due("sound", x.count(7), 0);
            b.due("on stays", x.evening(1), 1);
            b.due("age stays", x.lamp(0, 2), 1);
            b.due("worn stays", x.pull(0, 2), 1);
            x.ring(0);
            x.go(1);
            b.due("both", x.mend(), true);
            b.due("none is left", x.count(7) + x.count(8), 0);
        });
        b.at("Promise 12", "false: none was", () -> {
            b.due("nothing told", new BellPulls().mend(), false);
            BellPulls x = Checks.of("lamp a;lit a;pull p 1 a;law stick 1;");
            b.due("at first", x.mend(), false);
            x.ring(0);
            x.mend();
            b.due("already", x.mend(), false);
            b.due("only one to undo", x.count(14), 2);
        });
    }

    private void go() {
        b.at("Promise 13", "So many MINUTES (0 .. 200) go by: which one it is", () -> {
            BellPulls x = Checks.of("lamp a;lit a;pull p 1 a;ring p 0;");
            b.due("none", x.go(0), 0);
            b.due("nothing happens", x.evening(1), 1);
            b.due("one", x.go(1), 1);
            b.due("rung", x.evening(1), 0);
            b.due("the most", x.go(200), 201);
        });
        b.at("Promise 13", "NONE, and none does: no such number", () -> {
            BellPulls x = Checks.of("lamp a;lit a;");
            b.each("go", x::go, -1, -1, 201, 202, 9000, Integer.MIN_VALUE, Integer.MAX_VALUE);
            b.due("minute", x.count(4), 0);
            b.due("age", x.lamp(0, 2), 0);
        });
        b.at("Promise 13", "behind 9000", () -> {
            BellPulls x = new BellPulls();
            for (int i = 1; i < 45; i++) {
                x.go(200);
            }
            x.go(1);
            b.due("9001", x.go(200), -1);
            b.due("none does", x.count(4), 8801);
            b.due("9000", x.go(199), 9000);
            b.each("one more", x::go, -1, 1, 2, 200, -1, 201, Integer.MAX_VALUE);
            b.due("none", x.go(0), 9000);
        });
    }
}
