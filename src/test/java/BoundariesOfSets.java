/** Boundary cases of sets of PULLS and the EVENINGS they lead to (the third part of 'Terms') and of promises 16 to 30. */
final class BoundariesOfSets {
    private static final int LOWEST = Integer.MIN_VALUE;
    private static final int HIGHEST = Integer.MAX_VALUE;
    private static final String LAMPS = "lamp a;lamp b;lamp c;lamp d;lamp e;lamp f;lamp g;lamp h;lamp i;lamp j;lamp k;lamp l;"
            + "lamp m;lamp n;";
    /** Ten pulls, a lamp each, and four lamps that none turns over. */
    private static final String TEN = LAMPS + "pull a 99 a;pull b 99 b;pull c 99 c;pull d 99 d;pull e 99 e;pull f 99 f;"
            + "pull g 99 g;pull h 99 h;pull i 99 i;pull j 99 j;";
    /** Ten pulls that all turn over the same lamp. */
    private static final String SAME = "lamp a;pull a 9 a;pull b 8 a;pull c 7 a;pull d 6 a;pull e 5 a;pull f 4 a;pull g 3 a;"
            + "pull h 2 a;pull i 1 a;pull j 0 a;";
    /** Ten pulls that turn over nothing. */
    private static final String IDLE = "lamp a;pull a 9;pull b 8;pull c 7;pull d 6;pull e 5;pull f 4;pull g 3;pull h 2;pull i 1;"
            + "pull j 0;";
    /** Two lamps, two pulls; p is STUCK by ringing it, and a is ON by it then. */
    private static final String STICKY = "lamp a;lamp b;pull p 2 a;pull q 1 b;law stick cost = 2;";

    private final Boundaries b;

    BoundariesOfSets(Boundaries b) {
        this.b = b;
    }

    void all() {
        byWhatIsNow();
        ways();
        fewest();
        cheapest();
        must();
        rank();
        basis();
        sumOf();
        silent();
        darkest();
        twins();
        fixed();
        knot();
        apart();
        evenings();
        game();
        gameOfTwo();
    }

    private static BellPulls stuck() {
        BellPulls x = Checks.of(STICKY);
        x.ring(0);
        return x;
    }

    private void byWhatIsNow() {
        b.at("Terms 3", "goes by FREE PULLS of now as they are TIED now", () -> {
            BellPulls x = stuck();
            b.due("ways without the stuck one", x.ways(0), 0);
            b.due("fewest", x.fewest(0), -2);
            b.due("cheapest", x.cheapest(0, 0), -2);
            b.due("must", x.must(0, 0), -2);
            b.due("never has no stuck one", x.must(1, 1), 2);
            b.due("rank", x.rank(), 1);
            b.due("basis", x.basis(), 2);
            b.due("sum of a stuck one", x.sumOf(0), -2);
            b.due("silent", x.silent(0), 0);
            b.due("darkest", x.darkest(0), 1);
            b.due("twins", x.twins(0), 0);
            b.due("fixed", x.fixed(), 1);
            b.due("knot", x.knot(0), -2);
            b.due("apart", x.apart(0, 1), -2);
            b.due("evenings", x.evenings(0), 0);
            b.due("game", x.game(0), 2);
            b.due("game", x.game(1), 1);
            x.tie(1, 0);
            b.due("ways as it is tied now", x.ways(2), 1);
            b.due("apart as it is tied now", x.apart(0, 3), 1);
            b.due("fixed as it is tied now", x.fixed(), 0);
            b.due("twins as it is tied now", x.twins(0), 2);
            x.mend();
            b.due("mended", x.rank(), 2);
        });
        b.at("Terms 3", "each rung once or not at all (nothing sticks by it)", () -> {
            BellPulls x = Checks.of("lamp a;lamp b;pull p 1 a;pull q 2 b;law stick 1;law toll 50;");
            b.due("both, though each would stick", x.fewest(3), 3);
            b.due("cost, not toll", x.cheapest(3, 1), 3);
            x.game(0);
            x.darkest(1);
            b.due("none is stuck", x.count(8), 0);
            b.due("no toll", x.count(9), 0);
            b.due("not worn", x.pull(0, 2) + x.pull(1, 2), 0);
            b.due("a pull doesn't ring twice", Checks.of("lamp a;pull p 1 a;").ways(0), 1);
        });
        b.at("Terms 3", "and by what is ON (BURNT or not)", () -> {
            BellPulls x = Checks.of("lamp a;lamp b;pull p 1 a;lit a;lit b;burn 100;");
            x.go(1);
            b.due("as it is", x.ways(3), 1);
            b.due("fewest", x.fewest(2), 1);
            b.due("darkest", x.darkest(0), 1);
            b.due("evenings", x.evenings(2), 1);
            b.due("game", x.game(0), 2);
            x.tie(0, 1);
            b.due("a game of burnt ones", x.game(0), 0);
        });
    }

    private void ways() {
        b.at("Terms 3", "WAYS to an EVENING: how many sets of PULLS lead from now to it.", () -> {
            BellPulls x = Checks.of("lamp a;lamp b;lit a;pull p 1 a;pull q 1 b;pull r 1 a b;");
            int[] due = {2, 2, 2, 2};
            for (int lamps = 0; lamps < 4; lamps++) {
                b.due("ways to " + lamps, x.ways(lamps), due[lamps]);
            }
            x.tie(2, 1);
            x.tie(1, 1);
            due = new int[] {4, 4, 0, 0};
            for (int lamps = 0; lamps < 4; lamps++) {
                b.due("without b, to " + lamps, x.ways(lamps), due[lamps]);
            }
        });
        b.at("Promise 16", "WAYS to an EVENING", () -> {
            b.due("no pull", Checks.of("lamp a;").ways(0), 1);
            b.due("no pull", Checks.of("lamp a;").ways(1), 0);
            b.due("no lamp", new BellPulls().ways(0), 1);
            b.due("one of a thousand", Checks.of(TEN).ways(1023), 1);
            b.due("a lamp that none turns over", Checks.of(TEN).ways(1024), 0);
            b.due("half of all", Checks.of(SAME).ways(0), 512);
            b.due("the other half", Checks.of(SAME).ways(1), 512);
            b.due("all of them", Checks.of(IDLE).ways(0), 1024);
            b.due("none of them", Checks.of(IDLE).ways(1), 0);
        });
        b.at("Promise 16", "NONE: no such LAMPS", () -> {
            b.each("two lamps", Checks.of(STICKY)::ways, -1, 4, 5, 8, 1 << 14, -1, LOWEST, HIGHEST);
            b.each("fourteen", Checks.of(TEN)::ways, -1, 16384, 32768, -1, LOWEST, HIGHEST);
            b.due("the most", Checks.of(TEN).ways(16383), 0);
            b.each("no lamp", new BellPulls()::ways, -1, 1, -1);
        });
    }

    private void fewest() {
        b.at("Terms 3", "FEWEST to it: the set of fewest PULLS, of several the least as bits", () -> {
            BellPulls x = Checks.of("lamp a;lamp b;pull p 1 a;pull q 1 b;pull r 1 a b;pull s 1 a b;");
            b.due("one of two", x.fewest(3), 4);
            b.due("one", x.fewest(1), 1);
            b.due("none", x.fewest(0), 0);
            BellPulls y = Checks.of("lamp a;lamp b;lamp c;pull p 1 a b;pull q 1 b c;pull r 1 a c;pull s 1 b c;");
            b.due("q of q and s", y.fewest(6), 2);
            BellPulls z = Checks.of("lamp a;lamp b;lamp c;pull p 1 a;pull q 1 b c;pull r 1 a b;pull s 1 c;");
            b.due("two of each: the lower", z.fewest(7), 3);
        });
        b.at("Promise 17", "FEWEST to an EVENING (bits)", () -> {
            b.due("all ten", Checks.of(TEN).fewest(1023), 1023);
            b.due("the last", Checks.of(TEN).fewest(512), 512);
            b.due("nothing is to be done", Checks.of(IDLE).fewest(0), 0);
            b.due("no lamp", new BellPulls().fewest(0), 0);
        });
        b.at("Promise 17", "-2: there is no way", () -> {
            b.due("a lamp that none turns over", Checks.of(TEN).fewest(1024), -2);
            b.due("no pull", Checks.of("lamp a;").fewest(1), -2);
            b.due("a stuck pull", stuck().fewest(0), -2);
        });
        b.at("Promise 17", "NONE: no such LAMPS", () -> {
            b.each("two lamps", Checks.of(STICKY)::fewest, -1, 4, 5, -1, LOWEST, HIGHEST);
            b.each("fourteen", Checks.of(TEN)::fewest, -1, 16384, -1, LOWEST, HIGHEST);
            b.due("the most", Checks.of(TEN).fewest(16383), -2);
            b.each("no lamp", new BellPulls()::fewest, -1, 1, -1);
        });
    }

    private void cheapest() {
        b.at("Terms 3", "CHEAPEST: of least COST in sum, of several the least as bits", () -> {
            BellPulls x = Checks.of("lamp a;lamp b;pull p 1 a;pull q 1 b;pull r 3 a b;pull s 2 a b;");
            b.due("two cost as much as one", x.cheapest(3, 0), 3);
            b.due("their cost", x.cheapest(3, 1), 2);
            BellPulls y = Checks.of("lamp a;lamp b;pull r 2 a b;pull p 1 a;pull q 1 b;");
            b.due("one costs as much as two", y.cheapest(3, 0), 1);
            BellPulls z = Checks.of("lamp a;lamp b;pull r 3 a b;pull p 1 a;pull q 1 b;");
            b.due("more pulls cost less", z.cheapest(3, 0), 6);
            b.due("fewest isn't cheapest", z.fewest(3), 1);
            BellPulls free = Checks.of("lamp a;pull p 0;pull q 0 a;");
            b.due("what costs nothing isn't rung for nothing", free.cheapest(1, 0), 2);
            // By what is on now: the same evening costs another sum then.
            BellPulls lit = Checks.of("lamp a;lamp b;lit a;pull p 5 a;pull q 7 b;");
            int[][] due = {{1, 5}, {0, 0}, {3, 12}, {2, 7}};
            for (int lamps = 0; lamps < 4; lamps++) {
                b.due("pulls to " + lamps, lit.cheapest(lamps, 0), due[lamps][0]);
                b.due("cost to " + lamps, lit.cheapest(lamps, 1), due[lamps][1]);
            }
            b.due("none rather than all that do nothing", Checks.of(IDLE).cheapest(0, 0), 0);
            b.due("none rather than two of the same", Checks.of(SAME).cheapest(0, 0), 0);
            b.due("which costs nothing", Checks.of(SAME).cheapest(0, 1), 0);
            b.due("nothing", free.cheapest(1, 1), 0);
        });
        b.at("Promise 18", "CHEAPEST, what 0: PULLS (bits), 1: COST in sum", () -> {
            b.due("all ten", Checks.of(TEN).cheapest(1023, 0), 1023);
            b.due("the most", Checks.of(TEN).cheapest(1023, 1), 990);
            b.due("none", Checks.of(TEN).cheapest(0, 0), 0);
            b.due("none", Checks.of(TEN).cheapest(0, 1), 0);
            b.due("the last costs nothing", Checks.of(SAME).cheapest(1, 0), 512);
            b.due("the last costs nothing", Checks.of(SAME).cheapest(1, 1), 0);
        });
        b.at("Promise 18", "-2: there is no way", () -> {
            for (int what = 0; what < 2; what++) {
                b.due("a lamp that none turns over", Checks.of(TEN).cheapest(1024, what), -2);
                b.due("no pull", Checks.of("lamp a;").cheapest(1, what), -2);
                b.due("a stuck pull", stuck().cheapest(0, what), -2);
            }
        });
        b.at("Promise 18", "NONE: no such ones", () -> {
            BellPulls x = Checks.of(STICKY);
            b.each("lamps", lamps -> x.cheapest(lamps, 0), -1, 4, 5, -1, LOWEST, HIGHEST);
            b.each("lamps", lamps -> x.cheapest(lamps, 1), -1, 4, -1);
            b.each("what", what -> x.cheapest(0, what), -1, 2, 3, -1, LOWEST, HIGHEST);
            b.due("no way, and no such what", Checks.of("lamp a;").cheapest(1, 2), -1);
            b.due("both", x.cheapest(4, 2), -1);
        });
    }

    private void must() {
        b.at("Terms 3", "MUST: PULLS that are in each of the WAYS; NEVER: FREE PULLS that are in none.", () -> {
            BellPulls x = Checks.of("lamp a;lamp b;lamp c;pull p 1 a;pull q 1 b;pull r 1 b;pull s 1 c;");
            b.due("p is in each, q and r in some", x.must(1, 0), 1);
            b.due("s is in none", x.must(1, 1), 8);
            b.due("none must", x.must(0, 0), 0);
            b.due("p and s never", x.must(0, 1), 9);
        });
        b.at("Promise 19", "MUST (what 0), NEVER (1) to an EVENING (bits)", () -> {
            b.due("all must", Checks.of(TEN).must(1023, 0), 1023);
            b.due("none never", Checks.of(TEN).must(1023, 1), 0);
            b.due("none must", Checks.of(TEN).must(0, 0), 0);
            b.due("all never", Checks.of(TEN).must(0, 1), 1023);
            b.due("neither", Checks.of(SAME).must(1, 0) + Checks.of(SAME).must(1, 1), 0);
            b.due("no pull", Checks.of("lamp a;").must(0, 0), 0);
            b.due("no pull", Checks.of("lamp a;").must(0, 1), 0);
            b.due("a stuck one isn't told", stuck().must(1, 1), 2);
            b.due("a stuck one isn't told", stuck().must(3, 0), 2);
        });
        b.at("Promise 19", "-2: there is no way", () -> {
            for (int what = 0; what < 2; what++) {
                b.due("a lamp that none turns over", Checks.of(TEN).must(1024, what), -2);
                b.due("no pull", Checks.of("lamp a;").must(1, what), -2);
                b.due("a stuck pull", stuck().must(0, what), -2);
            }
        });
        b.at("Promise 19", "NONE: no such ones", () -> {
            BellPulls x = Checks.of(STICKY);
            b.each("lamps", lamps -> x.must(lamps, 0), -1, 4, 5, -1, LOWEST, HIGHEST);
            b.each("lamps", lamps -> x.must(lamps, 1), -1, 4, -1);
            b.each("what", what -> x.must(0, what), -1, 2, 3, -1, LOWEST, HIGHEST);
            b.due("no way, and no such what", Checks.of("lamp a;").must(1, 2), -1);
        });
    }

    private void rank() {
        b.at("Terms 3", "RANK: EVENINGS that can be had are 2 to this.", () -> {
            for (String text : new String[] {"", "lamp a;", TEN, SAME, IDLE, STICKY, Checks.HOUSE}) {
                BellPulls x = Checks.of(text);
                int had = 0;
                for (int lamps = 0; lamps < 1 << x.count(0) && lamps < 2048; lamps++) {
                    // No object is asked more often than is promised.
                    x = lamps % 256 == 255 ? Checks.of(text) : x;
                    had += x.ways(lamps) > 0 ? 1 : 0;
                }
                b.due("evenings of " + text, had, 1 << x.rank());
            }
        });
        b.at("Promise 20", "RANK", () -> {
            b.due("nothing told", new BellPulls().rank(), 0);
            b.due("no lamp", Checks.of("pull p 1;").rank(), 0);
            b.due("tied to nothing", Checks.of(IDLE).rank(), 0);
            b.due("ten of the same", Checks.of(SAME).rank(), 1);
            b.due("the most", Checks.of(TEN).rank(), 10);
            b.due("none is free", Checks.of("lamp a;pull p 1 a;law stick 1;ring p 0;").rank(), 1);
            BellPulls x = Checks.of("lamp a;pull p 1 a;law stick 1;ring p 0;");
            x.go(1);
            b.due("none is free now", x.rank(), 0);
            b.due("two of the last lamp", Checks.of(LAMPS + "pull p 1 n;pull q 1 n;").rank(), 1);
            b.due("two of the last two", Checks.of(LAMPS + "pull p 1 m n;pull q 1 n;pull r 1 m;").rank(), 2);
        });
    }

    private void basis() {
        b.at("Terms 3", "BASIS: by numbers each PULL that isn't the sum of some ahead of it", () -> {
            BellPulls x = Checks.of("lamp a;lamp b;lamp c;pull p 1 a b c;pull q 1 a;pull r 1 b c;pull s 1 b;pull t 1 c;");
            b.due("r is p and q, t is p, q and s", x.basis(), 1 + 2 + 8);
            BellPulls y = Checks.of("lamp a;lamp b;lamp c;pull t 1 c;pull s 1 b;pull r 1 b c;pull q 1 a;pull p 1 a b c;");
            b.due("the other way round", y.basis(), 1 + 2 + 8);
        });
        b.at("Terms 3", "(sum: what is turned over by an odd number of them; one TIED to nothing is the sum of none)", () -> {
            BellPulls x = Checks.of("lamp a;lamp b;lamp c;pull p 1 a b;pull q 1 a c;pull r 1 b c;pull s 1;pull t 1 a b c;");
            b.due("r is p and q, s is none", x.basis(), 1 + 2 + 16);
            b.due("r", x.sumOf(2), 3);
            b.due("s", x.sumOf(3), 0);
            b.due("the first one, tied to nothing", Checks.of("lamp a;pull p 1;pull q 1 a;").basis(), 2);
            b.due("its sum", Checks.of("lamp a;pull p 1;pull q 1 a;").sumOf(0), 0);
        });
        b.at("Promise 21", "BASIS (bits)", () -> {
            b.due("nothing told", new BellPulls().basis(), 0);
            b.due("tied to nothing", Checks.of(IDLE).basis(), 0);
            b.due("the first of the same", Checks.of(SAME).basis(), 1);
            b.due("all", Checks.of(TEN).basis(), 1023);
            BellPulls x = Checks.of("lamp a;pull p 2 a;pull q 1 a;law stick cost = 2;");
            x.ring(0);
            b.due("the first free one", x.basis(), 2);
        });
    }

    private void sumOf() {
        b.at("Terms 3", "SUM of a PULL that isn't of the BASIS: PULLS of the BASIS ahead of it whose sum it is.", () -> {
            BellPulls x = Checks.of("lamp a;lamp b;pull p 1 a;pull q 1 a;pull r 1 b;pull s 1 a b;pull t 1 b;");
            b.due("q", x.sumOf(1), 1);
            b.due("s is p and r, not q", x.sumOf(3), 5);
            b.due("t is r", x.sumOf(4), 4);
            // Alike to q, though q was taken in by p.
            BellPulls y = Checks.of("lamp a;lamp b;lamp c;pull p 1 a b;pull q 1 b;pull r 1 b;pull s 1 a;pull t 1 a b;pull u 1 a c;pull v 1 c;");
            b.due("r is q", y.sumOf(2), 2);
            b.due("s is p and q", y.sumOf(3), 3);
            b.due("t is p", y.sumOf(4), 1);
            b.due("v is p, q and u", y.sumOf(6), 1 + 2 + 32);
        });
        b.at("Promise 22", "SUM (bits)", () -> {
            b.due("the last of the same", Checks.of(SAME).sumOf(9), 1);
            b.due("the last of none", Checks.of(IDLE).sumOf(9), 0);
            BellPulls x = Checks.of(TEN);
            for (int lamp = 0; lamp < 9; lamp++) {
                x.tie(9, lamp);
            }
            x.tie(9, 9);
            b.due("the sum of nine", x.sumOf(9), 511);
        });
        b.at("Promise 22", "-2: it is of the BASIS, STUCK", () -> {
            for (int pull = 0; pull < 10; pull++) {
                b.due("of the basis", Checks.of(TEN).sumOf(pull), -2);
            }
            b.due("of the basis", Checks.of(SAME).sumOf(0), -2);
            b.due("stuck", stuck().sumOf(0), -2);
            BellPulls x = Checks.of("lamp a;pull p 1 a;pull q 2 a;pull r 2;law stick cost = 2;");
            b.due("a sum", x.sumOf(1), 1);
            b.due("a sum of none", x.sumOf(2), 0);
            x.ring(1);
            x.ring(2);
            b.due("stuck, though it would be a sum", x.sumOf(1), -2);
            b.due("stuck, though it would be the sum of none", x.sumOf(2), -2);
        });
        b.at("Promise 22", "NONE: no such PULL", () -> {
            b.each("two", Checks.of(STICKY)::sumOf, -1, 2, 3, 10, 32, -1, LOWEST, HIGHEST);
            b.each("ten", Checks.of(TEN)::sumOf, -1, 10, 11, -1);
            b.each("none", new BellPulls()::sumOf, -1, 0, 1, -1);
        });
    }

    private void silent() {
        b.at("Terms 3", "SILENT: sets of PULLS, not empty, that turn nothing over together.", () -> {
            BellPulls x = Checks.of("lamp a;lamp b;pull p 1 a;pull q 1 b;");
            b.due("not the empty one", x.silent(0), 0);
            b.due("one alone", Checks.of("pull p 1;").silent(0), 1);
            b.due("two of the same", Checks.of("lamp a;pull p 1 a;pull q 1 a;").silent(0), 1);
        });
        b.at("Promise 23", "SILENT, what 0: how many there are", () -> {
            b.due("nothing told", new BellPulls().silent(0), 0);
            b.due("none", Checks.of(TEN).silent(0), 0);
            b.due("the most", Checks.of(IDLE).silent(0), 1023);
            b.due("half", Checks.of(SAME).silent(0), 511);
            b.due("a stuck one is in none", stuck().silent(0), 0);
        });
        b.at("Promise 23", "1: the one of fewest PULLS, of several the least as bits (0: there is none)", () -> {
            b.due("nothing told", new BellPulls().silent(1), 0);
            b.due("none", Checks.of(TEN).silent(1), 0);
            b.due("the first of ten", Checks.of(IDLE).silent(1), 1);
            b.due("the first two of ten", Checks.of(SAME).silent(1), 3);
            BellPulls x = Checks.of("lamp a;lamp b;pull p 1 a;pull q 1 b;pull r 1 a b;pull s 1 b;pull t 1 a;");
            b.due("q and s are two, p, q and r are less as bits", x.silent(1), 2 + 8);
            BellPulls y = Checks.of("lamp a;lamp b;pull p 1 a;pull q 1 b;pull r 1 a b;pull s 1;");
            b.due("s alone", y.silent(1), 8);
        });
        b.at("Promise 23", "NONE for another what", () -> {
            b.each("what", Checks.of(SAME)::silent, -1, 2, 3, -1, LOWEST, HIGHEST);
            b.each("nothing told", new BellPulls()::silent, -1, 2, -1);
        });
    }

    private void darkest() {
        b.at("Terms 3", "DARKEST: the EVENING of fewest ON that can be had, of several by fewest PULLS, then the least set of PULLS as bits.", () -> {
            String lit = "lamp a;lamp b;lamp c;lit a;lit b;lit c;";
            BellPulls x = Checks.of(lit + "pull p 1 a;pull q 1 b;pull r 1 a b;");
            b.due("by one rather than by two", x.darkest(1), 4);
            b.due("one is on", x.darkest(0), 1);
            b.due("c", x.darkest(2), 4);
            BellPulls y = Checks.of(lit + "pull p 1 b c;pull q 1 a c;pull r 1 a b;");
            b.due("of three evenings the least set", y.darkest(1), 1);
            b.due("its evening, though it isn't the least", y.darkest(2), 1);
            BellPulls z = Checks.of(lit + "pull p 1 a;pull q 1 b c;pull r 1 a b;pull s 1 c;");
            b.due("of two sets to the same the least", z.darkest(1), 3);
            b.due("all off", z.darkest(0), 0);
            BellPulls w = Checks.of("lamp a;lamp b;lit a;pull p 1 a b;");
            b.due("none rather than one", w.darkest(1), 0);
        });
        b.at("Promise 24", "DARKEST, what 0: how many are ON, 1: PULLS (bits), 2: the EVENING (bits)", () -> {
            BellPulls none = new BellPulls();
            b.each("nothing told", none::darkest, 0, 0, 1, 2);
            BellPulls x = Checks.of(LAMPS + "lit a;lit n;");
            b.due("no pull", x.darkest(0), 2);
            b.due("no pull", x.darkest(1), 0);
            b.due("no pull", x.darkest(2), 8193);
            BellPulls y = Checks.of(TEN);
            for (int pull = 0; pull < 10; pull++) {
                y.ring(pull);
            }
            b.due("ten", y.darkest(0), 0);
            b.due("ten", y.darkest(1), 1023);
            b.due("ten", y.darkest(2), 0);
            BellPulls z = stuck();
            b.due("not by a stuck one", z.darkest(1), 0);
            b.due("not by a stuck one", z.darkest(2), 1);
        });
        b.at("Promise 24", "NONE for another what", () -> {
            b.each("what", Checks.of(SAME)::darkest, -1, 3, 4, -1, LOWEST, HIGHEST);
            b.each("nothing told", new BellPulls()::darkest, -1, 3, -1);
        });
    }

    private void twins() {
        b.at("Terms 3", "TWINS of a LAMP: other LAMPS that are turned over by just the same PULLS (by none as well).", () -> {
            BellPulls x = Checks.of("lamp a;lamp b;lamp c;lamp d;lamp e;pull p 2 a b c;pull q 1 a c;law stick cost = 2;");
            b.due("a and c", x.twins(0), 4);
            b.due("b has fewer", x.twins(1), 0);
            b.due("by none", x.twins(3), 16);
            b.due("by none", x.twins(4), 8);
            x.ring(0);
            b.due("by none that is free", x.twins(1), 8 + 16);
        });
        b.at("Promise 25", "TWINS (bits)", () -> {
            BellPulls x = Checks.of(LAMPS);
            for (int lamp = 0; lamp < 14; lamp++) {
                b.due("all the others", x.twins(lamp), 16383 - (1 << lamp));
            }
            b.due("there is no other one", Checks.of("lamp a;").twins(0), 0);
        });
        b.at("Promise 25", "NONE: no such LAMP", () -> {
            b.each("two", Checks.of(STICKY)::twins, -1, 2, 3, 14, 32, -1, LOWEST, HIGHEST);
            b.each("fourteen", Checks.of(LAMPS)::twins, -1, 14, 15, -1);
            b.each("none", new BellPulls()::twins, -1, 0, -1);
        });
    }

    private void fixed() {
        b.at("Terms 3", "FIXED: LAMPS turned over by no PULL.", () -> {
            b.due("by a stuck one alone", stuck().fixed(), 1);
            b.due("an even number of them turns it over, too", Checks.of("lamp a;pull p 1 a;pull q 1 a;").fixed(), 0);
        });
        b.at("Promise 26", "FIXED (bits)", () -> {
            b.due("nothing told", new BellPulls().fixed(), 0);
            b.due("all", Checks.of(LAMPS).fixed(), 16383);
            b.due("four", Checks.of(TEN).fixed(), 15 << 10);
            b.due("none", Checks.of(SAME).fixed(), 0);
            b.due("no lamp", Checks.of("pull p 1;").fixed(), 0);
        });
    }

    private void knots(String text, int pull, int lamp) {
        BellPulls x = Checks.of(text);
        int ties = x.count(11);
        b.due("pull of " + text, x.knot(0), pull);
        b.due("lamp of " + text, x.knot(1), lamp);
        b.due("nothing is tied by asking", x.count(11), ties);
        b.due("nothing to undo", x.count(14), 0);
    }

    private void knot() {
        b.at("Terms 3", "KNOT: the first FREE PULL, then LAMP, by numbers, which TIED, if they aren't, or loosed, if they are, would make RANK more.", () -> {
            knots("lamp a;pull p 1;", 0, 0);
            knots("lamp a;lamp b;pull p 1 a;pull q 1 a;", 0, 1);
            knots("lamp a;lamp b;pull p 1 a b;pull q 1 a b;", 0, 0);
            // p is of the basis, whatever is done to it; q tied to a would be as p.
            knots("lamp a;lamp b;pull p 1 a;pull q 1;", 1, 1);
            knots("lamp a;lamp b;lamp c;pull p 1 a;pull q 1 b;pull r 1 a b;", 0, 2);
            BellPulls x = Checks.of("lamp a;lamp b;pull p 2;pull q 1;law stick cost = 2;");
            x.ring(0);
            b.due("the first free one", x.knot(0), 1);
            b.due("its lamp", x.knot(1), 0);
        });
        b.at("Promise 27", "KNOT, what 0: the PULL, 1: the LAMP.", () -> {
            knots(IDLE, 0, 0);
            knots(SAME + "lamp b;", 0, 1);
            // The last of ten pulls and the last of ten lamps: no other knot opens anything.
            BellPulls x = Checks.of("lamp a;lamp b;lamp c;lamp d;lamp e;lamp f;lamp g;lamp h;lamp i;lamp j;pull a 1 a;pull b 1 b;"
                    + "pull c 1 c;pull d 1 d;pull e 1 e;pull f 1 f;pull g 1 g;pull h 1 h;pull i 1 i;pull j 1;");
            b.due("the last pull", x.knot(0), 9);
            b.due("the last lamp", x.knot(1), 9);
        });
        b.at("Promise 27", "-2: there is none", () -> {
            knots("", -2, -2);
            knots("lamp a;", -2, -2);
            knots("pull p 1;", -2, -2);
            knots("lamp a;lamp b;pull p 1 a;pull q 1 b;pull r 1;", -2, -2);
            knots(TEN, -2, -2);
            b.due("all are stuck", stuckAlone().knot(0), -2);
            b.due("all are stuck", stuckAlone().knot(1), -2);
        });
        b.at("Promise 27", "NONE for another what", () -> {
            b.each("what", Checks.of(SAME)::knot, -1, 2, 3, -1, LOWEST, HIGHEST);
            b.each("nothing told", new BellPulls()::knot, -1, 2, -1);
        });
    }

    /** One pull, tied to nothing, that is STUCK. */
    private static BellPulls stuckAlone() {
        BellPulls x = Checks.of("lamp a;lit a;pull p 1;law stick 1;");
        x.ring(0);
        return x;
    }

    private void apart() {
        b.at("Terms 3", "APART of two EVENINGS (whatever is ON now): how many PULLS FEWEST from one to the other has.", () -> {
            BellPulls x = Checks.of("lamp a;lamp b;pull p 1 a;pull q 1 b;pull r 1 a b;lit a;");
            b.due("one for two lamps", x.apart(0, 3), 1);
            b.due("back", x.apart(3, 0), 1);
            b.due("one", x.apart(1, 2), 1);
            x.ring(0);
            b.due("whatever is on", x.apart(0, 3), 1);
            b.due("none", x.apart(2, 2), 0);
        });
        b.at("Promise 28", "APART", () -> {
            b.due("the farthest", Checks.of(TEN).apart(0, 1023), 10);
            b.due("lamps that none turns over, on in both", Checks.of(TEN).apart(16383, 16383 - 1), 1);
            b.due("nothing told", new BellPulls().apart(0, 0), 0);
            b.due("no pull", Checks.of("lamp a;").apart(1, 1), 0);
        });
        b.at("Promise 28", "-2: there is no way", () -> {
            b.due("a lamp that none turns over", Checks.of(TEN).apart(0, 1024), -2);
            b.due("back", Checks.of(TEN).apart(1024, 0), -2);
            b.due("no pull", Checks.of("lamp a;").apart(0, 1), -2);
            b.due("a stuck one", stuck().apart(0, 1), -2);
        });
        b.at("Promise 28", "NONE: no such LAMPS", () -> {
            BellPulls x = Checks.of(STICKY);
            b.each("one", lamps -> x.apart(lamps, 0), -1, 4, 5, -1, LOWEST, HIGHEST);
            b.each("other", lamps -> x.apart(0, lamps), -1, 4, 5, -1, LOWEST, HIGHEST);
            b.each("both the same", lamps -> x.apart(lamps, lamps), -1, 4, -1, LOWEST, HIGHEST);
            b.due("nothing told", new BellPulls().apart(1, 1), -1);
        });
    }

    private void evenings() {
        b.at("Promise 29", "How many EVENINGS that can be had have just so many LAMPS ON (0 .. 14)", () -> {
            BellPulls x = Checks.of(TEN);
            int[] due = {1, 10, 45, 120, 210, 252, 210, 120, 45, 10, 1, 0, 0, 0, 0};
            for (int many = 0; many <= 14; many++) {
                b.due("evenings of " + many, x.evenings(many), due[many]);
            }
            // Many ways to it are one evening.
            b.due("of the same", Checks.of(SAME).evenings(0), 1);
            b.due("of the same", Checks.of(SAME).evenings(1), 1);
            b.due("of nothing", Checks.of(IDLE).evenings(0), 1);
            b.due("more than there are lamps", Checks.of(IDLE).evenings(14), 0);
            b.due("nothing told", new BellPulls().evenings(0), 1);
            b.due("nothing told", new BellPulls().evenings(14), 0);
            StringBuilder all = new StringBuilder(LAMPS);
            for (char c = 'a'; c < 'a' + 14; c++) {
                all.append("lit ").append(c).append(';');
            }
            b.due("fourteen", Checks.of(all.toString()).evenings(14), 1);
            b.due("without the stuck one", stuck().evenings(0), 0);
            b.due("without the stuck one", stuck().evenings(1), 1);
        });
        b.at("Promise 29", "NONE: no such number", () -> {
            b.each("fourteen lamps", Checks.of(TEN)::evenings, -1, 15, 16, -1, LOWEST, HIGHEST);
            b.each("nothing told", new BellPulls()::evenings, -1, 15, -1);
        });
    }

    private void plays(String text, int winner, int first) {
        BellPulls x = Checks.of(text);
        b.due("who wins " + text, x.game(0), winner);
        b.due("what is rung first " + text, x.game(1), first);
        b.due("nothing is rung by asking", x.count(9), 0);
    }

    private void game() {
        b.at("Terms 3", "GAME: two by turns ring one PULL that wasn't rung in the GAME yet", () -> {
            // Ringing p twice would make it dark.
            plays("lamp a;lamp b;lit a;lit b;pull p 1 a;", 2, 0);
            // Each must ring: nobody may wait, so who begins has to open the way.
            plays("lamp a;lamp b;lit a;lit b;pull p 1 a;pull q 1 b;", 1, 0);
            // Unless there is one that does nothing.
            plays("lamp a;lamp b;lit a;lit b;pull p 1 a;pull q 1 b;pull r 1;", 0, 2);
            plays("lamp a;lamp b;lit a;lit b;pull p 1 a;pull q 1 b;pull r 1;pull s 1;", 1, 0);
        });
        b.at("Terms 3", "who makes all LAMPS OFF first, wins", () -> {
            plays("lamp a;lit a;pull p 1 a;", 0, 0);
            plays("lamp a;lit a;pull p 1;pull q 1 a;pull r 1 a;", 0, 1);
            // It ends there: that all could be rung on and be off again isn't looked at.
            plays("lamp a;lit a;pull p 1 a;pull q 1 a;pull r 1 a;", 0, 0);
        });
        b.at("Terms 3", "nobody wins, if none is left, or if they are OFF at the beginning", () -> {
            plays("lamp a;lit a;pull p 1;", 2, 0);
            plays("lamp a;lamp b;lit b;pull p 1 a;pull q 1 a;", 2, 0);
            plays("lamp a;pull p 1 a;pull q 1 a;", 2, -2);
            plays("lamp a;lamp b;pull p 1;", 2, -2);
            plays("", 2, -2);
        });
        b.at("Promise 30", "GAME, what 0: who wins (0: who begins, 1: the other one, 2: nobody)", () -> {
            b.due("who begins", Checks.of("lamp a;lit a;pull p 1 a;").game(0), 0);
            b.due("who begins, though two do nothing", Checks.of("lamp a;lit a;pull p 1;pull q 1;pull r 1 a;").game(0), 0);
            b.due("the other one", Checks.of("lamp a;lamp b;lit a;lit b;pull p 1 a;pull q 1 b;").game(0), 1);
            b.due("nobody", Checks.of("lamp a;lit a;").game(0), 2);
            b.due("nobody", stuckAlone().game(0), 2);
            BellPulls ten = Checks.of(TEN);
            for (int pull = 0; pull < 10; pull++) {
                ten.ring(pull);
            }
            b.due("ten to ring, the other one rings the last", ten.game(0), 1);
            ten.ring(9);
            b.due("nine of ten: who begins rings the last, unless one is spoilt", ten.game(0), 2);
        });
        b.at("Promise 30", "NONE for another what", () -> {
            b.each("what", Checks.of("lamp a;lit a;pull p 1 a;")::game, -1, 2, 3, -1, LOWEST, HIGHEST);
            b.each("nothing told", new BellPulls()::game, -1, 2, -1);
        });
    }

    private void gameOfTwo() {
        b.at("Terms 3", "each would rather win than that nobody does, rather that than that the other one does", () -> {
            // r, rung first, makes c ON for good: nobody wins, which is better than that the other one does.
            plays("lamp a;lamp b;lamp c;lit a;lit b;pull p 1 a;pull q 1 b;pull r 1 c;", 2, 2);
            // It is rung behind p, too, by the other one, if he can't win: but he can, by q.
            plays("lamp a;lamp b;lamp c;lit a;lit b;pull r 1 c;pull p 1 a;pull q 1 b;", 2, 0);
            // With one that does nothing, who begins would win by it; the other one spoils it by r.
            plays("lamp a;lamp b;lamp c;lit a;lit b;pull p 1 a;pull q 1 b;pull r 1 c;pull s 1;", 2, 2);
        });
        b.at("Promise 30", "1: the PULL that who begins rings first, the first by numbers by which it comes to that,"
                + " nobody's winning or the other one's, too", () -> {
            b.due("the first by which he wins", Checks.of("lamp a;lit a;pull p 1;pull q 1 a;pull r 1 a;").game(1), 1);
            b.due("the other one's", Checks.of("lamp a;lamp b;lit a;lit b;pull p 1 a;pull q 1 b;").game(1), 0);
            b.due("nobody's, not by the first", Checks.of("lamp a;lamp b;lamp c;lit a;lit b;pull p 1 a;pull q 1 b;pull r 1 c;").game(1), 2);
            b.due("nobody's, by the first", Checks.of("lamp a;lit a;pull p 1;pull q 1;").game(1), 0);
            b.due("the last of ten", Checks.of("lamp a;lit a;pull a 1;pull b 1;pull c 1;pull d 1;pull e 1;pull f 1;pull g 1;pull h 1;"
                    + "pull i 1;pull j 1 a;").game(1), 9);
            BellPulls x = Checks.of("lamp a;lit a;pull p 2;pull q 1;law stick cost = 2;");
            x.ring(0);
            b.due("the first free one", x.game(1), 1);
            BellPulls y = Checks.of("lamp a;pull p 2 a;pull q 1 a;law stick cost = 2;");
            y.ring(0);
            b.due("the one that is free makes it dark", y.game(1), 1);
            b.due("and wins", y.game(0), 0);
            b.due("the one that is stuck can't", stuck().game(1), 1);
            b.due("nobody wins", stuck().game(0), 2);
        });
        b.at("Promise 30", "(-2: nothing can be rung, or all is OFF)", () -> {
            b.due("no pull", Checks.of("lamp a;lit a;").game(1), -2);
            b.due("all are stuck", stuckAlone().game(1), -2);
            b.due("all is off", Checks.of("lamp a;pull p 1 a;").game(1), -2);
            b.due("no lamp", Checks.of("pull p 1;").game(1), -2);
            b.due("nothing told", new BellPulls().game(1), -2);
        });
    }
}
