/** Boundary cases of what would come (in the third part of 'Terms'), of undoing and of images (the fourth), of promises 14, 15, 31, 38 to 43. */
final class BoundariesOfTrials {
    private static final int LOWEST = Integer.MIN_VALUE;
    private static final int HIGHEST = Integer.MAX_VALUE;

    private final Boundaries b;

    BoundariesOfTrials(Boundaries b) {
        this.b = b;
    }

    void all() {
        ahead();
        dark();
        holds();
        chance();
        tried();
        triedOtherwise();
        undo();
        whatIsUndone();
        keep();
        back();
        count();
        countedMost();
    }

    private void stays(BellPulls x, int minute, int shown, int toll) {
        b.due("minute stays", x.count(4), minute);
        b.due("shown stays", x.count(5), shown);
        b.due("toll stays", x.count(9), toll);
    }

    private void ahead() {
        String text = "lamp a;lamp b;pull p 7 a;pull q 2 b;lit b;ring p 0;ring p 1;ring q 2;ring p 3;mend 5;"
                + "law stick cost = 7 and worn = 2;";
        b.at("Terms 3", "AHEAD for n MINUTES as it goes: how many LAMPS are SHOWN then, TOLL more, VAIN more, how many are BURNT,"
                + " how many PULLS are STUCK then.", () -> {
            BellPulls x = Checks.of(text + "law fate (minute = 4) * 50;");
            int[][] due = {{1, 0, 0, 0, 0}, {2, 7, 0, 0, 0}, {1, 14, 0, 0, 1}, {0, 16, 0, 0, 1}, {0, 16, 1, 0, 1},
                {0, 16, 1, 0, 1}, {0, 16, 1, 0, 0}};
            for (int n = 0; n < due.length; n++) {
                for (int what = 0; what < 5; what++) {
                    b.due("ahead(" + n + ", " + what + ")", x.ahead(n, what), due[n][what]);
                }
            }
            x.ring(1);
            x.go(2);
            b.due("toll so far", x.count(9), 16);
            b.due("toll more", x.ahead(2, 1), 2);
            b.due("vain more", x.ahead(2, 2), 1);
            x.go(2);
            b.due("vain so far", x.count(10), 1);
            b.due("vain more", x.ahead(9, 2), 0);
            b.due("b is burnt by then", x.ahead(1, 3), 1);
            b.due("and mended", x.ahead(2, 3), 0);
            BellPulls most = Checks.of("pull p 1;law toll 999;ring p 0;");
            for (int i = 0; i < 100; i++) {
                most.ring(0);
            }
            b.due("no more than 99999 in all", most.ahead(1, 1), 99);
        });
        b.at("Promise 14", "AHEAD (n 0 .. 200), what 0 SHOWN, 1 TOLL, 2 VAIN, 3 BURNT, 4 STUCK.", () -> {
            BellPulls x = Checks.of("lamp a;lit a;law fate (age >= 200) * 50;");
            b.due("199", x.ahead(199, 0), 1);
            b.due("the most", x.ahead(200, 0), 0);
            b.due("the most", x.ahead(200, 3), 1);
            b.due("the least", x.ahead(0, 3), 0);
            stays(x, 0, 1, 0);
            BellPulls last = new BellPulls();
            for (int i = 0; i < 45; i++) {
                last.go(200);
            }
            b.due("behind the last minute that can be gone to", last.ahead(200, 0), 0);
        });
        b.at("Promise 14", "NONE: no such ones.", () -> {
            BellPulls x = Checks.of(text);
            for (int what = 0; what < 5; what++) {
                int one = what;
                b.each("n", n -> x.ahead(n, one), -1, 201, 202, -1, LOWEST, HIGHEST);
            }
            b.each("what", what -> x.ahead(0, what), -1, 5, 6, -1, LOWEST, HIGHEST);
            b.due("both", x.ahead(201, 5), -1);
        });
    }

    private void dark() {
        b.at("Terms 3", "DARK of a LAMP: in how many MINUTES as it goes, 199 at most, it isn't SHOWN (0: now).", () -> {
            b.due("198", Checks.of("lamp a;lit a;law fate (age = 198) * 50;").dark(0), 198);
            b.due("199", Checks.of("lamp a;lit a;law fate (age = 199) * 50;").dark(0), 199);
            b.due("200", Checks.of("lamp a;lit a;law fate (age = 200) * 50;").dark(0), -2);
            b.due("off now", Checks.of("lamp a;").dark(0), 0);
            BellPulls x = Checks.of("lamp a;lit a;burn 100;");
            b.due("burnt in a minute", x.dark(0), 1);
            x.go(1);
            b.due("burnt now", x.dark(0), 0);
            BellPulls second = Checks.of("lamp a;lamp b;lit b;");
            b.due("the first is off", second.dark(0), 0);
            b.due("the second isn't", second.dark(1), -2);
            b.due("turned off in the first", Checks.of("lamp a;lit a;pull p 1 a;ring p 0;").dark(0), 1);
            b.due("turned off in the last", Checks.of("lamp a;lit a;pull p 1 a;ring p 99;").dark(0), 100);
            b.due("on again within the same minute", Checks.of("lamp a;lit a;pull p 1 a;ring p 3;ring p 3;").dark(0), -2);
        });
        b.at("Promise 15", "-2: not by then", () -> {
            BellPulls x = Checks.of("lamp a;lit a;law fate (minute >= 199) * 50;");
            b.due("a minute too late", x.dark(0), -2);
            stays(x, 0, 1, 0);
            x.go(1);
            b.due("just in time", x.dark(0), 199);
            b.due("never", Checks.of("lamp a;lit a;burn 49;").dark(0), -2);
        });
        b.at("Promise 15", "NONE: no such LAMP", () -> {
            BellPulls x = Checks.of("lamp a;lamp b;lit a;");
            b.each("two", x::dark, -1, 2, 3, 14, 32, -1, LOWEST, HIGHEST);
            b.due("nothing told", new BellPulls().dark(0), -1);
        });
    }

    private void holds(int burn, int n, long above, long below) {
        BellPulls x = Checks.of("burn " + burn + ";law fate 77;");
        b.due("above, burn " + burn + ", " + n, x.holds(n, 0), above);
        b.due("below, burn " + burn + ", " + n, x.holds(n, 1), below);
    }

    private void holds() {
        b.at("Terms 3", "HOLDS for n MINUTES: how likely a LAMP doesn't come to be BURNT by burn told, as a fraction.", () -> {
            holds(30, 1, 7, 10);
            holds(30, 2, 49, 100);
            holds(0, 6, 1, 1);
            holds(100, 1, 0, 1);
            holds(100, 6, 0, 1);
            b.due("not told", Checks.of("lamp a;").holds(6, 0), 1);
            b.due("not told", Checks.of("lamp a;law fate 50;").holds(6, 1), 1);
        });
        b.at("Promise 31", "HOLDS (n 0 .. 6) in least terms, what 0: the number above, 1: the one below.", () -> {
            holds(99, 0, 1, 1);
            holds(100, 0, 1, 1);
            // More than an int holds.
            holds(1, 6, 941480149401L, 1000000000000L);
            holds(99, 6, 1, 1000000000000L);
            holds(50, 6, 1, 64);
            holds(75, 6, 1, 4096);
            holds(25, 6, 729, 4096);
            holds(98, 6, 1, 15625000000L);
            holds(2, 6, 13841287201L, 15625000000L);
            for (int burn = 0; burn <= 100; burn++) {
                BellPulls x = Checks.of("burn " + burn + ";");
                for (int n = 0; n <= 6; n++) {
                    java.math.BigInteger above = java.math.BigInteger.valueOf(100 - burn).pow(n);
                    java.math.BigInteger below = java.math.BigInteger.valueOf(100).pow(n);
                    java.math.BigInteger common = above.gcd(below);
                    b.due("above, burn " + burn, x.holds(n, 0), above.divide(common).longValueExact());
                    b.due("below, burn " + burn, x.holds(n, 1), below.divide(common).longValueExact());
                }
            }
        });
        b.at("Promise 31", "NONE: no such ones.", () -> {
            BellPulls x = Checks.of("burn 30;");
            for (int n : new int[] {7, 8, 100, -1, LOWEST, HIGHEST}) {
                b.due("n " + n, x.holds(n, 0), -1);
                b.due("n " + n, x.holds(n, 1), -1);
            }
            for (int what : new int[] {2, 3, -1, LOWEST, HIGHEST}) {
                b.due("what " + what, x.holds(1, what), -1);
                b.due("what " + what, x.holds(0, what), -1);
            }
        });
    }

    /** By the document's words: of ten runs of n minutes, one lamp lit, in how many it burns out. */
    private static int burnsOf(int seed, int n, int burn) {
        int[] drawn = BoundariesOfMinutes.numbers(seed, 10 * n);
        int at = 0;
        int many = 0;
        for (int time = 0; time < 10; time++) {
            boolean burnt = false;
            for (int minute = 0; minute < n && !burnt; minute++) {
                burnt = drawn[at++] < burn;
            }
            many += burnt ? 1 : 0;
        }
        return many;
    }

    private void chance() {
        b.at("Promise 38", "In how many of ten times drawn (numbers from a seed 0 .. 2147483647 on, one behind another; n 1 .. 99"
                + " MINUTES from now) a LAMP is BURNT then", () -> {
            for (int burn : new int[] {1, 5, 30, 70, 99}) {
                BellPulls x = Checks.of("lamp a;lit a;seed 5;burn " + burn + ";");
                for (int seed : new int[] {0, 1, 99999, 100000, 1 << 30, HIGHEST - 1, HIGHEST}) {
                    for (int n : new int[] {1, 2, 3, 50, 98, 99}) {
                        b.due("chance(" + seed + ", " + n + ") of " + burn, x.chance(seed, n, 0), burnsOf(seed, n, burn));
                    }
                }
            }
            BellPulls none = Checks.of("lamp a;lamp b;lit a;lit b;law fate 0;burn 50;");
            b.due("in none", none.chance(0, 99, 0), 0);
            BellPulls all = Checks.of("lamp a;lamp b;lit a;burn 100;");
            b.due("in all", all.chance(0, 1, 0), 10);
            b.due("one that is off", all.chance(0, 99, 1), 0);
            all.go(1);
            b.due("burnt already", all.chance(0, 99, 0), 10);
            BellPulls second = Checks.of("lamp a;lamp b;lit b;burn 100;");
            b.due("the second in all", second.chance(0, 1, 1), 10);
            b.due("the first in none", second.chance(0, 1, 0), 0);
            BellPulls mended = Checks.of("lamp a;lamp b;lit a;law fate (minute = 0) * 100;mend 2;");
            mended.go(1);
            b.due("not mended by then", mended.chance(0, 1, 0), 10);
            b.due("mended by then", mended.chance(0, 2, 0), 0);
            // What is drawn so isn't drawn from the seed told.
            BellPulls x = Checks.of("lamp a;lit a;burn 1;seed 0;");
            x.chance(7, 99, 0);
            stays(x, 0, 1, 0);
            x.go(1);
            b.due("the first number of seed 0", x.count(7), 1);
        });
        b.at("Promise 38", "NONE: no such ones", () -> {
            BellPulls x = Checks.of("lamp a;lamp b;lit a;burn 100;");
            b.each("seed", seed -> x.chance(seed, 1, 0), -1, -1, -2, LOWEST);
            b.each("n", n -> x.chance(0, n, 0), -1, 0, -1, 100, 101, 200, LOWEST, HIGHEST);
            b.each("lamp", lamp -> x.chance(0, 1, lamp), -1, 2, 3, 14, 32, -1, LOWEST, HIGHEST);
            b.due("nothing told", new BellPulls().chance(0, 1, 0), -1);
        });
    }

    private void tried() {
        b.at("Promise 39", "TRIED (n 0 .. 200)", () -> {
            // In minute 199, nothing is mended or rung: what sticks and burns is seen by the last minute.
            BellPulls x = Checks.of("lamp a;lit a;law fate (age >= 200) * 50;pull p 1;");
            int[] due = {1, 0, 0, 0, 0};
            for (int what = 0; what < 5; what++) {
                b.due("the most, what " + what, x.tried(what, 0, 200), due[what]);
                b.due("one less, what " + what, x.tried(what, 0, 199), 1);
                b.due("the least, what " + what, x.tried(what, 0, 0), 1);
            }
            stays(x, 0, 1, 0);
        });
        b.at("Promise 39", "NONE: no such ones (i 0 of all but 2)", () -> {
            BellPulls x = Checks.of("lamp a;lit a;pull p 1;pull q 1;");
            for (int what = 0; what < 5; what++) {
                int one = what;
                b.each("n, what " + what, n -> x.tried(one, 0, n), -1, 201, 202, -1, LOWEST, HIGHEST);
                b.due("i 0, what " + what, x.tried(what, 0, 1), 1);
                b.due("i 1, what " + what, x.tried(what, 1, 1), what == 2 ? 1 : -1);
                b.each("i, what " + what, i -> x.tried(one, i, 1), -1, 2, 3, 10, -1, LOWEST, HIGHEST);
            }
            b.each("what", what -> x.tried(what, 0, 1), -1, 5, 6, -1, LOWEST, HIGHEST);
            b.due("no pull", Checks.of("lamp a;").tried(2, 0, 1), -1);
            b.due("no pull, but another what", Checks.of("lamp a;lit a;").tried(1, 0, 1), 1);
        });
    }

    private void triedOtherwise() {
        b.at("Terms 3", "0 nothing burns out", () -> {
            BellPulls x = Checks.of("lamp a;lamp b;lit a;lit b;law fate 100;");
            b.due("as it goes", x.ahead(1, 0), 0);
            b.due("tried", x.tried(0, 0, 200), 2);
            x.go(1);
            b.due("what is burnt already stays so", x.tried(0, 0, 200), 0);
        });
        b.at("Terms 3", "1 nothing sticks", () -> {
            BellPulls x = Checks.of("lamp a;pull p 1 a;law stick 1;ring p 0;ring p 1;ring p 2;");
            b.due("as it goes", x.ahead(2, 0), 1);
            b.due("rung twice", x.tried(1, 0, 2), 0);
            b.due("three times", x.tried(1, 0, 3), 1);
            x.go(1);
            b.due("what is stuck already stays so", x.tried(1, 0, 1), 1);
        });
        b.at("Terms 3", "2 PULL i isn't rung (not in VAIN either)", () -> {
            BellPulls x = Checks.of("lamp a;lamp b;pull p 1 a;pull q 2 b;ring p 0;ring q 0;ring p 1;ring q 2;");
            b.due("as it goes", x.ahead(1, 0), 2);
            b.due("not p", x.tried(2, 0, 1), 1);
            b.due("not q", x.tried(2, 1, 1), 1);
            b.due("not p", x.tried(2, 0, 2), 1);
            b.due("not p", x.tried(2, 0, 3), 0);
            b.due("not q", x.tried(2, 1, 2), 0);
        });
        b.at("Terms 3", "3 no mending told", () -> {
            BellPulls x = Checks.of("lamp a;lit a;law fate (minute = 0) * 100;mend 1;mend 99;");
            b.due("as it goes", x.ahead(2, 0), 1);
            b.due("tried", x.tried(3, 0, 2), 0);
            b.due("none at all", x.tried(3, 0, 200), 0);
        });
        b.at("Terms 3", "4 all PULLS are FREE, all LAMPS sound now", () -> {
            BellPulls x = Checks.of("lamp a;lamp b;lit a;pull p 1 b;law stick 1;law fate (minute = 0 or minute = 2) * 100;ring p 1;");
            x.ring(0);
            x.go(1);
            b.due("as it goes", x.ahead(0, 0), 0);
            b.due("sound now", x.tried(4, 0, 0), 2);
            b.due("free now: p turns b off", x.tried(4, 0, 1), 1);
            b.due("burnt again behind that", x.tried(4, 0, 2), 0);
            b.due("nothing is mended by it", x.count(8), 1);
            b.due("nothing is mended by it", x.count(7), 2);
        });
    }

    private void undo() {
        b.at("Terms 4", "Ringing, tying, mending by call (all that comes of it) can be undone, the latest first", () -> {
            BellPulls x = Checks.of("lamp a;lamp b;lit a;pull p 9 a b;law stick 1;burn 100;");
            x.go(1);
            x.ring(0);
            x.tie(0, 1);
            x.mend();
            b.due("mending", x.undo(), 2);
            b.due("stuck again", x.count(8), 1);
            b.due("burnt again", x.evening(2), 1);
            b.due("still loosed", x.pull(0, 3), 1);
            b.due("tying", x.undo(), 1);
            b.due("tied again", x.pull(0, 3), 3);
            b.due("ringing", x.undo(), 0);
            b.due("free", x.count(8), 0);
            b.due("toll", x.count(9), 0);
            b.due("worn", x.pull(0, 2), 0);
            b.due("on", x.evening(1), 1);
        });
        b.at("Terms 4", "(20 at most)", () -> {
            BellPulls x = Checks.of("pull p 1;");
            for (int i = 1; i <= 25; i++) {
                x.ring(0);
                b.due("after " + i, x.count(14), Math.min(i, 20));
            }
            for (int i = 19; i >= 0; i--) {
                b.due("undo", x.undo(), i);
                b.due("toll", x.count(9), 5 + i);
            }
            b.due("the first five stay", x.undo(), -1);
            b.due("the first five stay", x.count(9), 5);
        });
        b.at("Terms 4", "if no MINUTE went by since", () -> {
            BellPulls x = Checks.of("lamp a;pull p 1 a;");
            x.ring(0);
            x.go(0);
            x.go(-1);
            x.go(201);
            b.due("none went by", x.count(14), 1);
            x.go(1);
            b.due("one went by", x.count(14), 0);
            b.due("one went by", x.undo(), -1);
            b.due("on", x.evening(1), 1);
            x.ring(0);
            b.due("since that", x.undo(), 0);
            b.due("on", x.evening(1), 1);
            b.due("the one ahead of the minute stays", x.undo(), -1);
        });
    }

    private void whatIsUndone() {
        b.at("Promise 40", "The latest is undone: how many are left", () -> {
            BellPulls x = Checks.of("lamp a;pull p 1 a;");
            x.ring(0);
            x.tie(0, 0);
            b.due("the tie", x.undo(), 1);
            x.tie(0, 0);
            b.due("another in its place", x.count(14), 2);
            b.due("it", x.undo(), 1);
            b.due("the ring", x.undo(), 0);
            for (int i = 1; i <= 3; i++) {
                x.ring(0);
            }
            for (int i = 2; i >= 0; i--) {
                x.undo();
                b.due("worn so often", x.pull(0, 2), i);
                b.due("on", x.evening(1), i % 2);
                b.due("toll", x.count(9), i);
            }
            // Undoing and doing again, round and round.
            for (int i = 0; i < 50; i++) {
                x.ring(0);
                x.ring(0);
                b.due("one of two", x.undo(), Math.min(i + 1, 19));
            }
            b.due("toll of fifty", x.count(9), 50);
            // At their limit already: undone, it is as before.
            BellPulls most = Checks.of("pull p 1;law toll 999;");
            for (int i = 0; i < 102; i++) {
                most.ring(0);
            }
            most.undo();
            b.due("at its limit still", most.count(9), 99999);
            most.undo();
            b.due("below its limit", most.count(9), 99900);
        });
        b.at("Promise 40", "NONE: none", () -> {
            b.due("nothing told", new BellPulls().undo(), -1);
            BellPulls x = Checks.of("lamp a;pull p 1 a;law stick 1;");
            b.due("nothing done", x.undo(), -1);
            // What is refused, or asked, does nothing.
            x.ring(1);
            x.tie(0, 1);
            x.mend();
            x.game(0);
            x.knot(0);
            x.ahead(9, 0);
            x.keep();
            x.note(0, 0, true);
            b.due("nothing done", x.undo(), -1);
            b.due("nothing changed", x.count(12), 1);
            x.ring(0);
            x.ring(0);
            b.due("the second was refused", x.undo(), 0);
            b.due("none is left", x.undo(), -1);
            b.due("free", x.count(8), 0);
        });
    }

    private void keep() {
        b.at("Promise 41", "An IMAGE is kept (in place of one ahead): which MINUTE it is", () -> {
            BellPulls x = Checks.of("lamp a;pull p 1 a;");
            b.due("the first minute", x.keep(), 0);
            for (int i = 0; i < 45; i++) {
                x.go(200);
            }
            b.due("the last one", x.keep(), 9000);
            b.due("in place of the first", x.back(), 9000);
            BellPulls y = Checks.of("lamp a;pull p 1 a;");
            y.ring(0);
            b.due("keep", y.keep(), 0);
            b.due("what can be undone still can", y.count(14), 1);
            y.undo();
            b.due("the image isn't undone", y.back(), 0);
            b.due("on as in it", y.evening(1), 1);
        });
    }

    private void back() {
        b.at("Terms 4", "An IMAGE keeps all but NOTES.", () -> {
            BellPulls x = Checks.of("lamp a;lamp b;lamp c;lit a;lit c;pull p 3 a;pull q 5 b;law stick cost = 5;mend 3;"
                    + "ring q 0;ring q 0;law fate (minute = 1) * (ties = 0) * 100 + (minute > 3) * 50;");
            x.go(2);
            x.ring(0);
            x.tie(0, 1);
            x.note(0, 0, true);
            int[] counts = new int[12];
            for (int what = 0; what < 12; what++) {
                counts[what] = x.count(what);
            }
            b.due("burnt", x.evening(2), 4);
            b.due("stuck", x.count(8), 1);
            b.due("vain", x.count(10), 1);
            x.keep();
            x.note(1, 1, true);
            x.known(1);
            x.mend();
            x.ring(0);
            x.ring(1);
            x.tie(1, 2);
            x.go(50);
            b.due("back", x.back(), 2);
            for (int what = 0; what < 12; what++) {
                b.due("count(" + what + ")", x.count(what), counts[what]);
            }
            b.due("on", x.evening(1), 2 + 4);
            b.due("burnt", x.evening(2), 4);
            b.due("ages", x.lamp(0, 2) * 100 + x.lamp(1, 2) * 10 + x.lamp(2, 2), 222);
            b.due("worn", x.pull(0, 2) * 10 + x.pull(1, 2), 11);
            b.due("ties", x.pull(0, 3) * 10 + x.pull(1, 3), 32);
            b.due("notes stay", x.count(12), 2);
            b.due("by how many it is known stays", x.count(13), 1);
            // The numbers are as they were, too.
            BellPulls y = Checks.of("lamp a;lamp b;lamp c;lit a;lit b;lit c;burn 20;seed 3;");
            y.go(1);
            y.keep();
            int burnt = run(y);
            b.due("not all by the first numbers", burnt != 0 && burnt != run(y), true);
            for (int i = 0; i < 5; i++) {
                y.back();
                b.due("the same again", run(y), burnt);
                y.go(i);
            }
        });
        b.at("Promise 42", "All (but NOTES) is as in the IMAGE (nothing to undo then): which MINUTE it is", () -> {
            BellPulls x = Checks.of("lamp a;pull p 1 a;");
            x.ring(0);
            x.keep();
            x.ring(0);
            b.due("back", x.back(), 0);
            b.due("nothing to undo, of before either", x.count(14), 0);
            b.due("nothing to undo", x.undo(), -1);
            x.go(3);
            b.due("back again", x.back(), 0);
            b.due("and again", x.back(), 0);
            x.ring(0);
            b.due("one to undo since", x.undo(), 0);
            b.due("as in the image", x.evening(1), 1);
            for (int i = 0; i < 45; i++) {
                x.go(200);
            }
            b.due("from the last minute", x.back(), 0);
        });
        b.at("Promise 42", "NONE: there is none", () -> {
            b.due("nothing told", new BellPulls().back(), -1);
            BellPulls x = Checks.of("lamp a;pull p 1 a;");
            x.ring(0);
            b.due("none kept", x.back(), -1);
            b.due("all stays", x.evening(1), 1);
            b.due("what can be undone still can", x.count(14), 1);
            x.keep();
            Checks.tell(x, "lamp a;");
            b.due("not of the text ahead", x.back(), -1);
            x.keep();
            Checks.tell(x, "lamp $;");
            b.due("a text that was refused leaves it", x.back(), 0);
        });
    }

    /** Which lamps are burnt in each of eight minutes. */
    private static int run(BellPulls x) {
        int seen = 0;
        for (int i = 0; i < 8; i++) {
            x.go(1);
            seen = seen * 8 + x.evening(2);
        }
        return seen;
    }

    private void count() {
        b.at("Promise 43", "0 LAMPS, 1 PULLS, 2 RINGS told, 3 KNOTS, 4 the MINUTE, 5 SHOWN, 6 ON, 7 BURNT, 8 STUCK, 9 TOLL, 10 VAIN,"
                + " 11 how many TIES there are, 12 NOTES and STRIKES, 13 by how many it is KNOWN, 14 what can be undone.", () -> {
            // b and c are turned on, and burn out in the second minute, being tied to one pull each.
            BellPulls x = Checks.of("lamp a;lamp b;lamp c;lamp d;lamp e;pull p 5 a b;pull q 1 c;lit a;lit d;lit e;ring p 0;"
                    + "ring p 0;ring q 1;law stick cost = 5;law fate (ties = 1) * (minute = 1) * 100;");
            x.go(2);
            x.tie(1, 0);
            x.ring(1);
            x.note(0, 0, true);
            x.strike(0);
            x.note(1, 0, true);
            x.known(2);
            int[] due = {5, 2, 3, 12, 2, 3, 4, 2, 1, 7, 1, 4, 3, 2, 2};
            for (int what = 0; what < due.length; what++) {
                b.due("count(" + what + ")", x.count(what), due[what]);
            }
        });
        b.at("Promise 43", "NONE for another what", () -> {
            b.each("what", Checks.of("lamp a;")::count, -1, 15, 16, -1, LOWEST, HIGHEST);
        });
    }

    private void countedMost() {
        b.at("Promise 43", "0 LAMPS, 1 PULLS, 2 RINGS told, 3 KNOTS, 4 the MINUTE", () -> {
            StringBuilder text = new StringBuilder();
            for (char c = 'a'; c < 'a' + 14; c++) {
                text.append("lamp ").append(c).append(';');
            }
            for (char c = 'a'; c < 'a' + 10; c++) {
                text.append("pull ").append(c).append(" 9;");
            }
            text.append("ring a 0;".repeat(14)).append("law stick 1").append("+1".repeat(31)).append(';');
            BellPulls x = Checks.of(text.toString());
            for (int pull = 0; pull < 10; pull++) {
                for (int lamp = 0; lamp < 14; lamp++) {
                    x.tie(pull, lamp);
                }
            }
            b.due("lamps", x.count(0), 14);
            b.due("pulls", x.count(1), 10);
            b.due("rings", x.count(2), 14);
            b.due("knots", x.count(3), 63);
            b.due("ties", x.count(11), 140);
            b.due("undone", x.count(14), 20);
            x.go(1);
            b.due("vain", x.count(10), 13);
            b.due("shown", x.count(5), 14);
            b.due("on", x.count(6), 14);
            for (int pull = 1; pull < 10; pull++) {
                x.ring(pull);
            }
            b.due("stuck", x.count(8), 10);
            for (int i = 0; i < 44; i++) {
                x.go(200);
            }
            b.due("minute", x.go(199), 9000);
            b.due("minute", x.count(4), 9000);
        });
    }
}
