import java.util.Random;

/** Random texts and calls (the same each time), each answer compared with PlainHouse's. */
public final class CompareTests {
    private static final String[] NAMES = {"cost", "worn", "shown", "ties", "out", "age", "minute"};
    private static final String[] SIGNS = {"+", "-", "*", "/", "<", "<=", "=", "<>", ">=", ">", "and", "or"};
    private static final String[] SCRAPS = {";", "lamp", "pull", "(", ")", "not ", " and ", "=", "<", ">", "9", "99",
        "100", "10000", " aa", "toolong", "$", " ", "law", "toll", " seed ", " burn ", "+", "\u00e9", "\n", "mend 3;",
        "minute", " lit ", "ring p 3;", "A"};

    private final Random random;
    private final Checks c;
    private BellPulls x = new BellPulls();
    private PlainHouse y = new PlainHouse();

    private CompareTests(long seed, Checks c) {
        random = new Random(seed);
        this.c = c;
    }

    public static void main(String[] args) {
        Checks c = new Checks();
        for (int seed = 0; seed < 600; seed++) {
            new CompareTests(seed, c).texts(10);
            new CompareTests(seed + 10000, c).calls(300);
        }
        c.end("CompareTests");
    }

    private int below(int n) {
        return random.nextInt(n);
    }

    private String lamp(int i) {
        return "l" + (char) ('a' + i);
    }

    private String pull(int i) {
        return i == 0 ? "p" : "p" + (char) ('a' + i);
    }

    private String value(int depth) {
        int k = below(depth > 0 ? 10 : 6);
        if (k < 3) {
            return NAMES[below(7)];
        }
        if (k < 6) {
            return String.valueOf(below(3) == 0 ? below(10000) : below(60));
        }
        return "(" + expression(depth - 1) + ")";
    }

    private String expression(int depth) {
        StringBuilder b = new StringBuilder();
        boolean compared = false;
        int parts = 1 + below(3);
        b.append(below(5) == 0 ? "not " : "").append(value(depth));
        for (int i = 1; i < parts; i++) {
            int k = below(SIGNS.length);
            boolean compares = k >= 4 && k <= 9;
            if (compares && compared) {
                k = below(4);
                compares = false;
            }
            compared = k < 10 && (compared || compares);
            b.append(' ').append(SIGNS[k]).append(' ');
            b.append(k >= 10 && below(4) == 0 ? "not " : "").append(value(depth));
        }
        return b.toString();
    }

    private String randomText() {
        StringBuilder b = new StringBuilder();
        int lamps = below(8) == 0 ? 14 : below(7);
        int pulls = below(8) == 0 ? 10 : below(7);
        for (int i = 0; i < lamps; i++) {
            b.append("lamp ").append(lamp(i)).append(';');
        }
        for (int i = 0; i < pulls; i++) {
            b.append("pull ").append(pull(i)).append(' ').append(below(3) == 0 ? below(100) : below(6));
            for (int l = 0; l < lamps; l++) {
                b.append(below(3) == 0 ? " " + lamp(l) : "");
            }
            b.append(";");
        }
        for (int l = 0; l < lamps; l++) {
            b.append(below(2) == 0 ? "lit " + lamp(l) + ";" : "");
        }
        for (int i = below(9); i > 0 && pulls > 0; i--) {
            b.append("ring ").append(pull(below(pulls))).append(' ').append(below(8)).append(';');
        }
        for (int i = below(4); i > 0; i--) {
            b.append("mend ").append(below(9)).append(';');
        }
        b.append(below(2) == 0 ? "burn " + below(101) + ";" : "");
        b.append(below(2) == 0 ? "seed " + below(100000) + ";" : "");
        b.append(below(3) == 0 ? "law toll " + expression(2) + ";" : "");
        b.append(below(3) == 0 ? "law stick " + (below(2) == 0 ? expression(2) : "worn > " + below(3)) + ";" : "");
        b.append(below(3) == 0 ? "law fate " + (below(2) == 0 ? expression(2) : "age * " + below(40)) + ";" : "");
        return b.toString();
    }

    private String spoilt(String text) {
        StringBuilder b = new StringBuilder(text);
        for (int i = 1 + below(2); i > 0; i--) {
            int at = below(b.length() + 1);
            switch (below(4)) {
                case 0:
                    b.insert(at, SCRAPS[below(SCRAPS.length)]);
                    break;
                case 1:
                    b.setLength(at);
                    break;
                case 2:
                    b.delete(at, Math.min(b.length(), at + 1 + below(4)));
                    break;
                default:
                    b.insert(at, b.substring(at, Math.min(b.length(), at + below(25))));
            }
        }
        return b.toString();
    }

    private void tellBoth(String text) {
        String s = text.length() > 690 ? text.substring(0, 690) : text;
        for (int from = 0; from < s.length(); from += 20) {
            int[] five = new int[5];
            for (int i = 0; i < 20; i++) {
                five[i / 4] = five[i / 4] << 8 | (from + i < s.length() ? s.charAt(from + i) : 32);
            }
            c.due("feed", x.feed(five[0], five[1], five[2], five[3], five[4]), y.feed(five));
        }
        c.due("text " + s, x.text(s.length()), y.text(s.length()));
        c.due("fault of " + s, x.fault(0), y.fault(0));
        c.due("place of " + s, x.fault(1), y.fault(1));
        c.due("knots of " + s, x.count(3), y.count(3));
    }

    private void texts(int many) {
        for (int i = 0; i < many; i++) {
            tellBoth(below(3) == 0 ? randomText() : spoilt(randomText()));
        }
    }

    private void calls(int many) {
        for (int i = 0; i < many; i++) {
            if (i == 0 || below(120) == 0) {
                tellBoth(randomText());
            }
            oneCall();
            if (below(4) == 0) {
                same();
            }
        }
    }

    private void same() {
        for (int what = 0; what < 15; what++) {
            c.due("count " + what, x.count(what), y.count(what));
        }
        for (int what = 0; what < 3; what++) {
            c.due("evening " + what, x.evening(what), y.evening(what));
        }
    }

    private int its(int most) {
        return below(12) == 0 ? below(most + 4) - 2 : below(Math.max(1, most));
    }

    private int lampBits() {
        int lamps = y.lamps();
        switch (below(12)) {
            case 0:
                return -1;
            case 1:
                return 1 << lamps;
            case 2:
                return random.nextInt();
            case 3:
            case 4:
                return 0;
            case 5:
            case 6:
            case 7:
                return y.evening(1) ^ y.sum(y.nowTies(), below(1 << y.pulls()));
            default:
                return below(1 << lamps);
        }
    }

    private void oneCall() {
        int p = its(y.pulls());
        int l = its(y.lamps());
        int w = below(4) - below(2);
        int bits = lampBits();
        int other = lampBits();
        boolean is = random.nextBoolean();
        int seed = below(3) == 0 ? random.nextInt() : below(1000);
        switch (below(46)) {
            case 0: c.due("lamp", Checks.lamp(x, l, w), y.lamp(l, w)); break;
            case 1: c.due("pull", x.pull(p, w), y.pull(p, w)); break;
            case 2: case 3: c.due("law", x.law(w, w == 2 ? l : p), y.law(w, w == 2 ? l : p)); break;
            case 4: case 5: case 6: c.due("ring", x.ring(p), y.ring(p)); break;
            case 7: case 8: c.due("tie", x.tie(p, l), y.tie(p, l)); break;
            case 9: c.due("mend", x.mend(), y.mend()); break;
            case 10: case 11: {
                int n = below(20) == 0 ? below(210) : below(3) - below(2);
                c.due("go", x.go(n), y.go(n));
                break;
            }
            case 12: case 13: {
                int n = below(9) == 0 ? below(210) - 3 : below(9);
                int what = below(6) - below(2);
                c.due("ahead", x.ahead(n, what), y.ahead(n, what));
                break;
            }
            case 14: c.due("dark", x.dark(l), y.dark(l)); break;
            case 15: c.due("ways", x.ways(bits), y.ways(bits)); break;
            case 16: c.due("fewest", x.fewest(bits), y.fewest(bits)); break;
            case 17: c.due("cheapest", x.cheapest(bits, w), y.cheapest(bits, w)); break;
            case 18: c.due("must", x.must(bits, w), y.must(bits, w)); break;
            case 19: c.due("rank", x.rank(), y.rank()); break;
            case 20: c.due("basis", x.basis(), y.basis()); break;
            case 21: c.due("sumOf", x.sumOf(p), y.sumOf(p)); break;
            case 22: c.due("silent", x.silent(w), y.silent(w)); break;
            case 23: c.due("darkest", x.darkest(w), y.darkest(w)); break;
            case 24: c.due("twins", x.twins(l), y.twins(l)); break;
            case 25: c.due("fixed", x.fixed(), y.fixed()); break;
            case 26: c.due("knot", x.knot(w), y.pulls() > 7 ? x.knot(w) : y.knot(w)); break;
            case 27: c.due("apart", x.apart(bits, other), y.apart(bits, other)); break;
            case 28: {
                int many = below(17) - 1;
                c.due("evenings", x.evenings(many), y.evenings(many));
                break;
            }
            case 29: case 30: c.due("game", x.game(w), y.game(w)); break;
            case 31: {
                int n = below(9) - 1;
                c.due("holds", x.holds(n, w), y.holds(n, w));
                break;
            }
            case 32: case 33: {
                int what = below(8) == 0 ? w : below(2);
                int of = what == 0 ? l : p;
                c.due("note", x.note(what, of, is), y.note(what, of, is));
                break;
            }
            case 34: {
                int k = its(y.count(12));
                c.due("strike", x.strike(k), y.strike(k));
                break;
            }
            case 35: {
                int k = below(3) == 0 ? -1 : its(y.count(12) + 1);
                c.due("known", x.known(k), y.known(k));
                break;
            }
            case 36: c.due("fits", x.fits(), y.fits()); break;
            case 37: c.due("rang", x.rang(p), y.rang(p)); break;
            case 38: c.due("ask", x.ask(), y.ask()); break;
            case 39: {
                int n = below(6) == 0 ? below(104) - 2 : 1 + below(5);
                c.due("chance", x.chance(seed, n, l), y.chance(seed, n, l));
                break;
            }
            case 40: case 41: {
                int what = below(7) - 1;
                int i = what == 2 ? p : below(9) == 0 ? p : 0;
                int n = below(9) == 0 ? below(210) - 3 : below(9);
                c.due("tried", x.tried(what, i, n), y.tried(what, i, n));
                break;
            }
            case 42: c.due("undo", x.undo(), y.undo()); break;
            case 43: c.due("keep", x.keep(), y.keep()); break;
            case 44: c.due("back", x.back(), y.back()); break;
            default: {
                int what = below(4) - 1;
                int code = Checks.letters(what == 0 ? lamp(Math.max(0, l)) : pull(Math.max(0, p)));
                c.due("named", x.named(what, code), y.named(what, code));
                c.due("count", x.count(w - 3), y.count(w - 3));
                c.due("count", x.count(w + 13), y.count(w + 13));
            }
        }
    }
}
