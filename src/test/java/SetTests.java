/** Promises 16 to 30: sets of pulls and the evenings that they lead to. */
public final class SetTests {
    private static final Checks C = new Checks();

    public static void main(String[] args) {
        ways();
        fewestAndCheapest();
        must();
        basis();
        silent();
        darkest();
        twinsAndFixed();
        knot();
        apart();
        evenings();
        game();
        C.end("SetTests");
    }

    /** The shared house, but for s: it is stuck. */
    private static BellPulls withStuck() {
        BellPulls x = Checks.of(Checks.HOUSE + "law stick cost = 2;");
        x.ring(3);
        return x;
    }

    private static void ways() {
        BellPulls x = Checks.of(Checks.HOUSE);
        C.due("as it is", x.ways(5), 4);
        C.due("dark", x.ways(0), 4);
        C.due("e stays off", x.ways(16), 0);
        C.due("too many lamps", x.ways(32), -1);
        C.due("below 0", x.ways(-1), -1);
        BellPulls y = withStuck();
        C.due("on", y.evening(1), 9);
        C.due("c is even now", y.ways(9), 4);
        C.due("s would be needed", y.ways(8), 0);
        C.due("by u", y.ways(1), 4);
        y.mend();
        C.due("mended", y.ways(8), 4);
        BellPulls z = Checks.of("lamp a;lit a;burn 100;pull p 1 a;law stick 1;");
        z.go(1);
        C.due("burnt or not", z.ways(0), 1);
        C.due("burnt or not", z.ways(1), 1);
        C.due("nothing sticks by it", z.count(8), 0);
    }

    private static void fewestAndCheapest() {
        BellPulls x = Checks.of("lamp a;lamp b;lamp c;pull p 50 a b c;pull q 9 a;pull r 9 b;pull s 9 c;pull t 9 a;pull u 0;");
        C.due("nothing", x.fewest(0), 0);
        C.due("one", x.fewest(7), 1);
        C.due("the least of those", x.fewest(1), 2);
        C.due("two", x.fewest(3), 6);
        C.due("two, the least of those", x.fewest(6), 3);
        C.due("three cost less", x.cheapest(7, 0), 14);
        C.due("three cost less", x.cheapest(7, 1), 27);
        C.due("nothing", x.cheapest(0, 0), 0);
        C.due("nothing", x.cheapest(0, 1), 0);
        C.due("the least of those", x.cheapest(1, 0), 2);
        C.due("fewest of 8", x.fewest(8), -1);
        C.due("fewest of -1", x.fewest(-1), -1);
        C.due("cheapest of 8", x.cheapest(8, 0), -1);
        C.due("cheapest of -1", x.cheapest(-1, 1), -1);
        C.due("what 2", x.cheapest(0, 2), -1);
        C.due("what -1", x.cheapest(0, -1), -1);
        // A higher set of more pulls may cost as much as a lower one: the lower one is taken.
        BellPulls y = Checks.of("lamp a;lamp b;pull p 1 a;pull q 1 b;pull r 2 a b;");
        C.due("of several the least", y.cheapest(3, 0), 3);
        C.due("fewest", y.fewest(3), 4);
        y.ring(0);
        C.due("from now", y.fewest(3), 2);
        BellPulls z = withStuck();
        C.due("no way", z.fewest(8), -2);
        C.due("no way", z.cheapest(8, 0), -2);
        C.due("no way", z.cheapest(8, 1), -2);
        C.due("what first", z.cheapest(8, 2), -1);
        C.due("by u", z.fewest(1), 32);
        C.due("by u", z.cheapest(1, 1), 1);
    }

    private static void must() {
        BellPulls x = Checks.of(Checks.HOUSE);
        C.due("must", x.must(13, 0), 32);
        C.due("never", x.must(13, 1), 8);
        C.due("must", x.must(1, 0), 40);
        C.due("never", x.must(1, 1), 0);
        C.due("must", x.must(5, 0), 0);
        C.due("never", x.must(5, 1), 40);
        C.due("no way", x.must(16, 0), -2);
        C.due("no way", x.must(16, 1), -2);
        C.due("32", x.must(32, 0), -1);
        C.due("-1", x.must(-1, 0), -1);
        C.due("what 2", x.must(16, 2), -1);
        C.due("what -1", x.must(0, -1), -1);
        C.due("a stuck one isn't told as never", withStuck().must(9, 1), 32);
    }

    private static void basis() {
        BellPulls x = Checks.of("lamp a;lamp b;lamp c;pull p 1;pull q 1 a b;pull r 1 a b;pull s 1 b c;pull t 1 a c;pull u 1 c;pull v 1 a;");
        C.due("rank", x.rank(), 3);
        C.due("basis", x.basis(), 2 + 8 + 32);
        C.due("p is the sum of none", x.sumOf(0), 0);
        C.due("q is of the basis", x.sumOf(1), -2);
        C.due("r is as q", x.sumOf(2), 2);
        C.due("t is q and s", x.sumOf(4), 2 + 8);
        C.due("v is q, s and u", x.sumOf(6), 2 + 8 + 32);
        C.due("pull 7", x.sumOf(7), -1);
        C.due("pull -1", x.sumOf(-1), -1);
        BellPulls y = withStuck();
        C.due("rank without s", y.rank(), 3);
        C.due("basis without s", y.basis(), 3 + 32);
        C.due("s is stuck", y.sumOf(3), -2);
        C.due("r", y.sumOf(2), 3);
        y.tie(0, 4);
        C.due("r is no sum now", y.sumOf(2), -2);
        C.due("basis", y.basis(), 7 + 32);
        C.due("rank", y.rank(), 4);
    }

    private static void silent() {
        BellPulls x = Checks.of("lamp a;lamp b;pull p 1 a;pull q 1 b;pull r 1 a b;pull s 1 a;");
        C.due("how many", x.silent(0), 3);
        C.due("fewest", x.silent(1), 9);
        C.due("what 2", x.silent(2), -1);
        C.due("what -1", x.silent(-1), -1);
        BellPulls y = Checks.of("lamp a;lamp b;pull p 1 a;pull q 1 b;");
        C.due("none", y.silent(0), 0);
        C.due("none", y.silent(1), 0);
        BellPulls z = Checks.of("lamp a;pull p 1 a;pull q 1 a;pull r 2 a;law stick cost = 2;");
        z.ring(2);
        C.due("without the stuck one", z.silent(0), 1);
        C.due("without the stuck one", z.silent(1), 3);
    }

    private static void darkest() {
        BellPulls x = Checks.of("lamp a;lamp b;lamp c;lit a;lit b;lit c;pull p 1 a;pull q 1 b;pull r 1 a b;pull s 1 b;");
        C.due("c stays", x.darkest(0), 1);
        C.due("fewest pulls", x.darkest(1), 4);
        C.due("evening", x.darkest(2), 4);
        C.due("what 3", x.darkest(3), -1);
        C.due("what -1", x.darkest(-1), -1);
        BellPulls y = Checks.of("lamp a;lamp b;lamp c;lit a;lit b;pull p 1 b c;pull q 1 a c;");
        C.due("one at least", y.darkest(0), 0);
        C.due("both", y.darkest(1), 3);
        BellPulls z = Checks.of("lamp a;lamp b;lamp c;lit b;pull p 1 a b;pull q 1 b c;");
        C.due("as it is", z.darkest(1), 0);
        C.due("as it is", z.darkest(2), 2);
        BellPulls w = Checks.of("lamp a;lamp b;lamp c;lit a;lit b;lit c;pull p 1 b c;pull q 1 a c;");
        C.due("the least of those", w.darkest(1), 1);
        C.due("its evening", w.darkest(2), 1);
        BellPulls burnt = Checks.of("lamp a;lamp b;lit a;lit b;pull p 1 a;law fate (ties = 1) * 100;");
        burnt.go(1);
        C.due("what is burnt is on", burnt.darkest(1), 1);
        C.due("one that none turns", burnt.darkest(0), 1);
    }

    private static void twinsAndFixed() {
        BellPulls x = Checks.of("lamp a;lamp b;lamp c;lamp d;lamp e;pull p 1 a c;pull q 2 a b c;pull r 3 d;law stick cost = 2;");
        C.due("a and c", x.twins(0), 4);
        C.due("c and a", x.twins(2), 1);
        C.due("b has none", x.twins(1), 0);
        C.due("e has none", x.twins(4), 0);
        C.due("e", x.fixed(), 16);
        x.ring(1);
        C.due("by none as well", x.twins(4), 2);
        C.due("b and e", x.fixed(), 18);
        x.tie(2, 4);
        C.due("d and e", x.twins(3), 16);
        C.due("b", x.fixed(), 2);
        C.due("lamp 5", x.twins(5), -1);
        C.due("lamp -1", x.twins(-1), -1);
    }

    private static void knot() {
        BellPulls x = Checks.of("lamp a;lamp b;pull p 1 a b;pull q 1 a b;");
        C.due("loosing", x.knot(0), 0);
        C.due("loosing", x.knot(1), 0);
        BellPulls y = Checks.of("lamp a;lamp b;pull p 1 a;pull q 1;");
        C.due("tying q", y.knot(0), 1);
        C.due("tying q to b", y.knot(1), 1);
        C.due("nothing is tied by asking", y.pull(1, 3), 0);
        BellPulls z = Checks.of("lamp a;lamp b;pull p 1 a;pull q 1 b;pull r 1;");
        C.due("none", z.knot(0), -2);
        C.due("none", z.knot(1), -2);
        C.due("what 2", z.knot(2), -1);
        C.due("what -1", z.knot(-1), -1);
        BellPulls w = Checks.of("lamp a;lamp b;pull p 2;pull q 1;law stick cost = 2;");
        w.ring(0);
        C.due("a free one", w.knot(0), 1);
        C.due("no pull", Checks.of("lamp a;").knot(1), -2);
    }

    private static void apart() {
        BellPulls x = Checks.of(Checks.HOUSE);
        C.due("as they are", x.apart(9, 9), 0);
        C.due("both ways", x.apart(0, 1), 3 - 0);
        C.due("both ways", x.apart(1, 0), 3);
        C.due("one", x.apart(16, 19), 1);
        C.due("no way", x.apart(16, 0), -2);
        C.due("32", x.apart(32, 0), -1);
        C.due("32", x.apart(0, 32), -1);
        C.due("-1", x.apart(-1, 0), -1);
        C.due("-1", x.apart(0, -1), -1);
        x.ring(0);
        C.due("whatever is on now", x.apart(0, 1), 3);
        C.due("without the stuck one", withStuck().apart(0, 4), -2);
    }

    private static void evenings() {
        BellPulls x = Checks.of("lamp a;lamp b;lamp c;pull p 1 a b;pull q 1 b c;pull r 1 a c;lit a;");
        C.due("none", x.evenings(0), 0);
        C.due("one", x.evenings(1), 3);
        C.due("two", x.evenings(2), 0);
        C.due("three", x.evenings(3), 1);
        C.due("fourteen", x.evenings(14), 0);
        C.due("15", x.evenings(15), -1);
        C.due("-1", x.evenings(-1), -1);
        StringBuilder all = new StringBuilder();
        for (char c = 'a'; c < 'a' + 14; c++) {
            all.append("lamp ").append(c).append(";lit ").append(c).append(';');
        }
        C.due("all of fourteen", Checks.of(all.toString()).evenings(14), 1);
        BellPulls y = withStuck();
        C.due("without s", y.evenings(1) + y.evenings(3), 8 - 4);
    }

    private static void game(String text, int winner, int first) {
        BellPulls x = Checks.of(text);
        C.due("who wins: " + text, x.game(0), winner);
        C.due("what is rung: " + text, x.game(1), first);
        C.due("what 2", x.game(2), -1);
        C.due("what -1", x.game(-1), -1);
        C.due("nothing is rung", x.count(9), 0);
    }

    private static void game() {
        game("lamp a;lit a;pull p 1 a;", 0, 0);
        game("lamp a;pull p 1 a;", 2, -2);
        game("lamp a;lit a;", 2, -2);
        game("lamp a;lit a;pull p 1;", 2, 0);
        // Whoever rings p or q lets the other one ring the other.
        game("lamp a;lamp b;lit a;lit b;pull p 1 a;pull q 1 b;", 1, 0);
        // But t loses a turn.
        game("lamp a;lamp b;lit a;lit b;pull p 1 a;pull q 1 b;pull t 1;", 0, 2);
        game("lamp a;lamp b;lit a;lit b;pull p 1 a;pull q 1 b;pull t 1;pull u 1;", 1, 0);
        // Rather nobody than the other one: r spoils it for both.
        game("lamp a;lamp b;lamp c;lit a;lit b;pull p 1 a;pull q 1 b;pull r 1 c;", 2, 2);
        game("lamp a;lamp b;lit a;lit b;pull p 1 a;pull q 1;", 2, 0);
        game("lamp a;lit a;pull p 1;pull q 1 a;", 0, 1);
        BellPulls x = Checks.of("lamp a;lit a;pull p 2;pull q 1 a;law stick cost = 2;");
        x.ring(0);
        C.due("a free one", x.game(1), 1);
        x.ring(1);
        C.due("off now", x.game(0), 2);
        C.due("off now", x.game(1), -2);
        BellPulls y = Checks.of("lamp a;lit a;pull p 1;pull q 2;law stick 1;");
        y.ring(0);
        y.ring(1);
        C.due("none is free", y.game(1), -2);
    }
}
