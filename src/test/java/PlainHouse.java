import java.util.ArrayList;
import java.util.Arrays;
import java.util.HashMap;
import java.util.HashSet;
import java.util.List;
import java.util.Map;
import java.util.Set;
import java.math.BigInteger;

/**
 * A second writing of the document, with the whole Java library and other ways of working
 * (a tree for each law, sets and searches instead of rows), for the tests to compare with.
 */
final class PlainHouse {
    static final class Fault extends Exception {
        private static final long serialVersionUID = 1L;
        final int which;
        final int place;

        Fault(int which, int place) {
            super(null, null, false, false);
            this.which = which;
            this.place = place;
        }
    }

    static final class Tree {
        String head;
        Tree left;
        Tree right;

        Tree(String head, Tree left, Tree right) {
            this.head = head;
            this.left = left;
            this.right = right;
        }
    }

    static final class Wrong extends Exception {
        private static final long serialVersionUID = 1L;

        Wrong() {
            super(null, null, false, false);
        }
    }

    static final class Text {
        List<String> lamps = new ArrayList<>();
        List<String> pulls = new ArrayList<>();
        List<Integer> costs = new ArrayList<>();
        List<Set<Integer>> ties = new ArrayList<>();
        Set<Integer> lit = new HashSet<>();
        List<int[]> rings = new ArrayList<>();
        List<Integer> mends = new ArrayList<>();
        Integer burn;
        Integer seed;
        Map<String, Tree> laws = new HashMap<>();
        int knots;
        int lines;
    }

    static final class State {
        int minute;
        boolean[] on;
        boolean[] burnt;
        int[] age;
        boolean[] stuck;
        int[] worn;
        List<Set<Integer>> ties = new ArrayList<>();
        int toll;
        int vain;
        long number;

        State(Text t) {
            on = new boolean[t.lamps.size()];
            for (int l : t.lit) {
                on[l] = true;
            }
            burnt = new boolean[t.lamps.size()];
            age = new int[t.lamps.size()];
            stuck = new boolean[t.pulls.size()];
            worn = new int[t.pulls.size()];
            for (Set<Integer> s : t.ties) {
                ties.add(new HashSet<>(s));
            }
            number = t.seed == null ? 0 : t.seed;
        }

        State(State s) {
            minute = s.minute;
            on = s.on.clone();
            burnt = s.burnt.clone();
            age = s.age.clone();
            stuck = s.stuck.clone();
            worn = s.worn.clone();
            for (Set<Integer> x : s.ties) {
                ties.add(new HashSet<>(x));
            }
            toll = s.toll;
            vain = s.vain;
            number = s.number;
        }

        boolean shown(int lamp) {
            return on[lamp] && !burnt[lamp];
        }

        int shown() {
            int n = 0;
            for (int l = 0; l < on.length; l++) {
                n += shown(l) ? 1 : 0;
            }
            return n;
        }
    }

    // ---- reading

    static final class Parser {
        static final Set<String> LANGUAGE = new HashSet<>(Arrays.asList("lamp", "pull", "lit", "ring", "mend", "burn",
                "seed", "law", "toll", "stick", "fate", "or", "and", "not", "cost", "worn", "shown", "ties", "out",
                "age", "minute"));
        static final Set<String> NAMES = new HashSet<>(Arrays.asList("cost", "worn", "shown", "ties", "out", "age",
                "minute"));
        final List<String> tokens = new ArrayList<>();
        final List<Integer> places = new ArrayList<>();
        final int length;
        int i;
        Text t = new Text();

        Parser(String s) {
            length = s.length();
            int p = 0;
            while (p < s.length()) {
                char ch = s.charAt(p);
                if (ch == ' ' || ch == '\n') {
                    p++;
                    continue;
                }
                int q = p + 1;
                if (ch >= 'a' && ch <= 'z') {
                    while (q < s.length() && s.charAt(q) >= 'a' && s.charAt(q) <= 'z') {
                        q++;
                    }
                } else if (ch >= '0' && ch <= '9') {
                    while (q < s.length() && s.charAt(q) >= '0' && s.charAt(q) <= '9') {
                        q++;
                    }
                } else if (s.startsWith("<=", p) || s.startsWith("<>", p) || s.startsWith(">=", p)) {
                    q = p + 2;
                }
                tokens.add(s.substring(p, q));
                places.add(p);
                p = q;
            }
        }

        String peek() {
            return i < tokens.size() ? tokens.get(i) : "";
        }

        int place() {
            return i < tokens.size() ? places.get(i) : length;
        }

        Fault at(int which) {
            return new Fault(which, place());
        }

        boolean isName() {
            return peek().matches("[a-z]{1,6}") && !LANGUAGE.contains(peek());
        }

        void word(String w) throws Fault {
            if (!peek().equals(w)) {
                throw at(1);
            }
            i++;
        }

        String name() throws Fault {
            if (!isName()) {
                throw at(1);
            }
            return tokens.get(i++);
        }

        int number(int most) throws Fault {
            if (!peek().matches("[0-9]+")) {
                throw at(1);
            }
            BigInteger n = new BigInteger(peek());
            if (n.compareTo(BigInteger.valueOf(most)) > 0) {
                throw at(2);
            }
            i++;
            return n.intValue();
        }

        int told(List<String> of) throws Fault {
            if (!isName()) {
                throw at(1);
            }
            int k = of.indexOf(peek());
            if (k < 0) {
                throw at(4);
            }
            return k;
        }

        Text text() throws Fault {
            while (i < tokens.size()) {
                line();
                word(";");
                t.lines++;
            }
            return t;
        }

        void line() throws Fault {
            String w = peek();
            boolean full = w.equals("lamp") && t.lamps.size() == 14 || w.equals("pull") && t.pulls.size() == 10
                    || w.equals("ring") && t.rings.size() == 14 || w.equals("mend") && t.mends.size() == 4;
            if (full) {
                throw at(2);
            }
            if (w.equals("burn") && t.burn != null || w.equals("seed") && t.seed != null) {
                throw at(3);
            }
            i++;
            if (w.equals("lamp")) {
                if (t.lamps.contains(peek())) {
                    throw at(3);
                }
                t.lamps.add(name());
            } else if (w.equals("pull")) {
                if (t.pulls.contains(peek())) {
                    throw at(3);
                }
                t.pulls.add(name());
                t.costs.add(number(99));
                Set<Integer> ties = new HashSet<>();
                t.ties.add(ties);
                while (isName()) {
                    int l = told(t.lamps);
                    if (!ties.add(l)) {
                        throw at(3);
                    }
                    i++;
                }
            } else if (w.equals("lit")) {
                int l = told(t.lamps);
                if (!t.lit.add(l)) {
                    throw at(3);
                }
                i++;
            } else if (w.equals("ring")) {
                int p = told(t.pulls);
                i++;
                t.rings.add(new int[] {p, number(99)});
            } else if (w.equals("mend")) {
                t.mends.add(number(99));
            } else if (w.equals("burn")) {
                t.burn = number(100);
            } else if (w.equals("seed")) {
                t.seed = number(99999);
            } else if (w.equals("law")) {
                String which = peek();
                if (!which.equals("toll") && !which.equals("stick") && !which.equals("fate")) {
                    throw at(1);
                }
                if (t.laws.containsKey(which)) {
                    throw at(3);
                }
                i++;
                t.laws.put(which, e(0));
            } else {
                i--;
                throw at(1);
            }
        }

        void knot() throws Fault {
            if (t.knots == 64) {
                throw at(2);
            }
            t.knots++;
        }

        String sign() throws Fault {
            knot();
            return tokens.get(i++);
        }

        Tree e(int open) throws Fault {
            Tree x = a(open);
            while (peek().equals("or")) {
                x = new Tree(sign(), x, a(open));
            }
            return x;
        }

        Tree a(int open) throws Fault {
            Tree x = b(open);
            while (peek().equals("and")) {
                x = new Tree(sign(), x, b(open));
            }
            return x;
        }

        Tree b(int open) throws Fault {
            if (peek().equals("not")) {
                return new Tree(sign(), b(open), null);
            }
            Tree x = s(open);
            if (peek().matches("<|<=|=|<>|>=|>")) {
                x = new Tree(sign(), x, s(open));
            }
            return x;
        }

        Tree s(int open) throws Fault {
            Tree x = t(open);
            while (peek().matches("[+-]")) {
                x = new Tree(sign(), x, t(open));
            }
            return x;
        }

        Tree t(int open) throws Fault {
            Tree x = p(open);
            while (peek().matches("[*/]")) {
                x = new Tree(sign(), x, p(open));
            }
            return x;
        }

        Tree p(int open) throws Fault {
            if (peek().equals("(")) {
                if (open == 8) {
                    throw at(2);
                }
                i++;
                Tree x = e(open + 1);
                word(")");
                return x;
            }
            if (NAMES.contains(peek())) {
                return new Tree(sign(), null, null);
            }
            if (!peek().matches("[0-9]+")) {
                throw at(1);
            }
            knot();
            return new Tree(String.valueOf(number(9999)), null, null);
        }
    }

    // ---- the object

    private String tape = "";
    private Text text = new Text();
    private State now = new State(text);
    private State image;
    private final List<State> before = new ArrayList<>();
    private int fault;
    private int faultPlace = -1;
    private final List<int[]> notes = new ArrayList<>();
    private int first = -1;

    int lamps() {
        return text.lamps.size();
    }

    int pulls() {
        return text.pulls.size();
    }

    boolean isLamp(int l) {
        return l >= 0 && l < lamps();
    }

    boolean isPull(int p) {
        return p >= 0 && p < pulls();
    }

    boolean areLamps(int bits) {
        return bits >= 0 && bits >> lamps() == 0;
    }

    int feed(int[] five) {
        if (tape.length() > 680) {
            return -1;
        }
        StringBuilder b = new StringBuilder(tape);
        for (int x : five) {
            b.append((char) (x >>> 24)).append((char) (x >>> 16 & 255)).append((char) (x >>> 8 & 255))
                    .append((char) (x & 255));
        }
        tape = b.toString();
        return tape.length();
    }

    int text(int n) {
        if (n < 0 || n > tape.length()) {
            return -2;
        }
        String s = tape.substring(0, n);
        tape = "";
        try {
            text = new Parser(s).text();
        } catch (Fault f) {
            fault = f.which;
            faultPlace = f.place;
            return -1;
        }
        fault = 0;
        faultPlace = -1;
        now = new State(text);
        image = null;
        before.clear();
        notes.clear();
        first = -1;
        return text.lines;
    }

    int fault(int what) {
        return what == 0 ? fault : what == 1 ? faultPlace : -1;
    }

    int named(int what, int letters) {
        if (what != 0 && what != 1) {
            return -1;
        }
        List<String> of = what == 0 ? text.lamps : text.pulls;
        for (int k = 0; k < of.size(); k++) {
            if (Checks.letters(of.get(k)) == letters) {
                return k;
            }
        }
        return -1;
    }

    static int bits(boolean[] row) {
        int x = 0;
        for (int k = 0; k < row.length; k++) {
            x += row[k] ? 1 << k : 0;
        }
        return x;
    }

    static int bits(Set<Integer> set) {
        int x = 0;
        for (int k : set) {
            x += 1 << k;
        }
        return x;
    }

    int tiedTo(State s, int lamp) {
        int x = 0;
        for (int p = 0; p < pulls(); p++) {
            x += s.ties.get(p).contains(lamp) ? 1 << p : 0;
        }
        return x;
    }

    int lamp(int lamp, int what) {
        if (!isLamp(lamp)) {
            return -1001;
        }
        switch (what) {
            case 0: return now.on[lamp] ? 1 : 0;
            case 1: return now.burnt[lamp] ? 1 : 0;
            case 2: return now.age[lamp];
            case 3: return tiedTo(now, lamp);
            default: return -1002;
        }
    }

    int pull(int pull, int what) {
        if (!isPull(pull)) {
            return -1;
        }
        switch (what) {
            case 0: return text.costs.get(pull);
            case 1: return now.stuck[pull] ? 1 : 0;
            case 2: return now.worn[pull];
            case 3: return bits(now.ties.get(pull));
            default: return -1;
        }
    }

    int evening(int what) {
        return what == 0 ? bits(now.on) & ~bits(now.burnt) : what == 1 ? bits(now.on) : what == 2 ? bits(now.burnt) : -1;
    }

    // ---- laws

    static final BigInteger MOST = BigInteger.TEN.pow(12);

    long worth(Tree x, Map<String, Integer> names) throws Wrong {
        if (x.head.matches("[0-9]+")) {
            return Long.parseLong(x.head);
        }
        if (names.containsKey(x.head)) {
            return names.get(x.head);
        }
        long l = worth(x.left, names);
        if (x.head.equals("not")) {
            return l == 0 ? 1 : 0;
        }
        long r = worth(x.right, names);
        BigInteger a = BigInteger.valueOf(l);
        BigInteger b = BigInteger.valueOf(r);
        BigInteger v;
        switch (x.head) {
            case "or": return l != 0 || r != 0 ? 1 : 0;
            case "and": return l != 0 && r != 0 ? 1 : 0;
            case "<": return l < r ? 1 : 0;
            case "<=": return l <= r ? 1 : 0;
            case "=": return l == r ? 1 : 0;
            case "<>": return l != r ? 1 : 0;
            case ">=": return l >= r ? 1 : 0;
            case ">": return l > r ? 1 : 0;
            case "+": v = a.add(b); break;
            case "-": v = a.subtract(b); break;
            case "*": v = a.multiply(b); break;
            default:
                if (r == 0) {
                    throw new Wrong();
                }
                v = a.divide(b);
        }
        if (v.abs().compareTo(MOST) > 0) {
            throw new Wrong();
        }
        return v.longValueExact();
    }

    /** null: no such law, or an ERROR. */
    Long lawOf(State s, String law, int its) {
        Tree x = text.laws.get(law);
        if (x == null) {
            return null;
        }
        boolean lamp = law.equals("fate");
        int out = 0;
        for (boolean b : s.burnt) {
            out += b ? 1 : 0;
        }
        Map<String, Integer> names = new HashMap<>();
        names.put("cost", lamp ? 0 : text.costs.get(its));
        names.put("worn", lamp ? 0 : s.worn[its]);
        names.put("shown", s.shown());
        names.put("ties", lamp ? Integer.bitCount(tiedTo(s, its)) : s.ties.get(its).size());
        names.put("out", out);
        names.put("age", lamp ? s.age[its] : 0);
        names.put("minute", s.minute);
        try {
            return worth(x, names);
        } catch (Wrong w) {
            return null;
        }
    }

    long law(int what, int its) {
        if (what < 0 || what > 2 || !(what == 2 ? isLamp(its) : isPull(its))) {
            return Long.MIN_VALUE;
        }
        Long v = lawOf(now, what == 0 ? "toll" : what == 1 ? "stick" : "fate", its);
        return v == null ? Long.MIN_VALUE : v;
    }

    // ---- minutes

    void rung(State s, int p, boolean sticks) {
        if (s.stuck[p]) {
            s.vain++;
            return;
        }
        Long e = lawOf(s, "toll", p);
        long more = e == null ? text.costs.get(p) : e < 0 ? 0 : e > 999 ? 999 : e;
        for (int l : s.ties.get(p)) {
            s.on[l] = !s.on[l];
        }
        s.toll = (int) Math.min(99999, s.toll + more);
        s.worn[p] = Math.min(999, s.worn[p] + 1);
        Long st = lawOf(s, "stick", p);
        if (sticks && st != null && st != 0) {
            s.stuck[p] = true;
        }
    }

    /** other: what TRIED says, -1 for nothing. */
    void minute(State s, boolean drawn, int other, int i) {
        if (other != 3 && text.mends.contains(s.minute)) {
            Arrays.fill(s.stuck, false);
            Arrays.fill(s.burnt, false);
        }
        for (int[] r : text.rings) {
            if (r[1] == s.minute && !(other == 2 && r[0] == i)) {
                rung(s, r[0], other != 1);
            }
        }
        for (int l = 0; l < lamps(); l++) {
            if (!s.shown(l)) {
                continue;
            }
            s.age[l] = Math.min(999, s.age[l] + 1);
            Long e = lawOf(s, "fate", l);
            long odds = e == null ? (text.burn == null ? 0 : text.burn) : e < 0 ? 0 : e > 100 ? 100 : e;
            boolean burns;
            if (!drawn) {
                burns = odds >= 50;
            } else if (odds == 0 || odds == 100) {
                burns = odds == 100;
            } else {
                s.number = (s.number * 1103515245L + 12345) % (1L << 31);
                burns = s.number / 65536 % 100 < odds;
            }
            if (burns && other != 0) {
                s.burnt[l] = true;
            }
        }
        s.minute++;
    }

    void remember() {
        before.add(new State(now));
        if (before.size() > 20) {
            before.remove(0);
        }
    }

    int ring(int p) {
        if (!isPull(p)) {
            return -1;
        }
        if (now.stuck[p]) {
            return -2;
        }
        remember();
        rung(now, p, true);
        return now.shown();
    }

    int tie(int p, int l) {
        if (!isPull(p) || !isLamp(l)) {
            return -1;
        }
        remember();
        Set<Integer> s = now.ties.get(p);
        if (!s.remove(l)) {
            s.add(l);
            return 1;
        }
        return 0;
    }

    boolean mend() {
        if (bits(now.stuck) == 0 && bits(now.burnt) == 0) {
            return false;
        }
        remember();
        Arrays.fill(now.stuck, false);
        Arrays.fill(now.burnt, false);
        return true;
    }

    int go(int n) {
        if (n < 0 || n > 200 || now.minute + n > 9000) {
            return -1;
        }
        for (int k = 0; k < n; k++) {
            minute(now, true, -1, 0);
            before.clear();
        }
        return now.minute;
    }

    int ahead(int n, int what) {
        if (n < 0 || n > 200 || what < 0 || what > 4) {
            return -1;
        }
        State s = new State(now);
        for (int k = 0; k < n; k++) {
            minute(s, false, -1, 0);
        }
        int[] all = {s.shown(), s.toll - now.toll, s.vain - now.vain, Integer.bitCount(bits(s.burnt)),
            Integer.bitCount(bits(s.stuck))};
        return all[what];
    }

    int dark(int l) {
        if (!isLamp(l)) {
            return -1;
        }
        State s = new State(now);
        int k = 0;
        while (s.shown(l)) {
            if (k == 199) {
                return -2;
            }
            minute(s, false, -1, 0);
            k++;
        }
        return k;
    }

    // ---- sets

    boolean free(int set) {
        return (set & bits(now.stuck)) == 0;
    }

    List<Set<Integer>> nowTies() {
        return now.ties;
    }

    int sum(List<Set<Integer>> ties, int set) {
        int x = 0;
        for (int p = 0; p < ties.size(); p++) {
            x ^= (set >> p & 1) != 0 ? bits(ties.get(p)) : 0;
        }
        return x;
    }

    List<Integer> waysFrom(int from, int to) {
        List<Integer> found = new ArrayList<>();
        for (int set = 0; set < 1 << pulls(); set++) {
            if (free(set) && (from ^ sum(now.ties, set)) == to) {
                found.add(set);
            }
        }
        return found;
    }

    List<Integer> ways() {
        List<Integer> found = new ArrayList<>();
        for (int set = 0; set < 1 << pulls(); set++) {
            if (free(set)) {
                found.add(set);
            }
        }
        return found;
    }

    int ways(int to) {
        return areLamps(to) ? waysFrom(bits(now.on), to).size() : -1;
    }

    static Integer fewestOf(List<Integer> sets) {
        List<Integer> s = new ArrayList<>(sets);
        s.sort((a, b) -> Integer.bitCount(a) != Integer.bitCount(b)
                ? Integer.bitCount(a) - Integer.bitCount(b) : a - b);
        return s.isEmpty() ? -2 : s.get(0);
    }

    int fewest(int to) {
        return areLamps(to) ? fewestOf(waysFrom(bits(now.on), to)) : -1;
    }

    int cost(int set) {
        int x = 0;
        for (int p = 0; p < pulls(); p++) {
            x += (set >> p & 1) * text.costs.get(p);
        }
        return x;
    }

    int cheapest(int to, int what) {
        if (!areLamps(to) || what < 0 || what > 1) {
            return -1;
        }
        List<Integer> s = waysFrom(bits(now.on), to);
        s.sort((a, b) -> cost(a) != cost(b) ? cost(a) - cost(b) : a - b);
        return s.isEmpty() ? -2 : what == 0 ? s.get(0) : cost(s.get(0));
    }

    int must(int to, int what) {
        if (!areLamps(to) || what < 0 || what > 1) {
            return -1;
        }
        List<Integer> s = waysFrom(bits(now.on), to);
        if (s.isEmpty()) {
            return -2;
        }
        int x = 0;
        for (int p = 0; p < pulls(); p++) {
            int n = 0;
            for (int set : s) {
                n += set >> p & 1;
            }
            boolean in = what == 0 ? n == s.size() : n == 0 && !now.stuck[p];
            x += in ? 1 << p : 0;
        }
        return x;
    }

    int rank() {
        Set<Integer> all = new HashSet<>();
        for (int set : ways()) {
            all.add(sum(now.ties, set));
        }
        return 31 - Integer.numberOfLeadingZeros(all.size());
    }

    int basis() {
        int x = 0;
        for (int p = 0; p < pulls(); p++) {
            boolean isSum = now.stuck[p];
            for (int set = 0; set < 1 << p; set++) {
                isSum |= free(set) && sum(now.ties, set) == bits(now.ties.get(p));
            }
            x += isSum ? 0 : 1 << p;
        }
        return x;
    }

    int sumOf(int p) {
        if (!isPull(p)) {
            return -1;
        }
        int b = basis();
        if (now.stuck[p] || (b >> p & 1) != 0) {
            return -2;
        }
        for (int set = 0; set < 1 << p; set++) {
            if ((set & ~b) == 0 && sum(now.ties, set) == bits(now.ties.get(p))) {
                return set;
            }
        }
        throw new AssertionError();
    }

    int silent(int what) {
        List<Integer> s = waysFrom(0, 0);
        s.remove(Integer.valueOf(0));
        return what == 0 ? s.size() : what == 1 ? s.isEmpty() ? 0 : fewestOf(s) : -1;
    }

    int darkest(int what) {
        List<Integer> s = ways();
        int on = bits(now.on);
        s.sort((a, b) -> {
            int x = Integer.bitCount(on ^ sum(now.ties, a)) - Integer.bitCount(on ^ sum(now.ties, b));
            int y = Integer.bitCount(a) - Integer.bitCount(b);
            return x != 0 ? x : y != 0 ? y : a - b;
        });
        int best = s.get(0);
        int ev = on ^ sum(now.ties, best);
        return what == 0 ? Integer.bitCount(ev) : what == 1 ? best : what == 2 ? ev : -1;
    }

    int twins(int l) {
        if (!isLamp(l)) {
            return -1;
        }
        int x = 0;
        for (int m = 0; m < lamps(); m++) {
            x += m != l && ((tiedTo(now, m) ^ tiedTo(now, l)) & ~bits(now.stuck)) == 0 ? 1 << m : 0;
        }
        return x;
    }

    int fixed() {
        int x = 0;
        for (int p = 0; p < pulls(); p++) {
            x |= now.stuck[p] ? 0 : bits(now.ties.get(p));
        }
        return (1 << lamps()) - 1 - x;
    }

    int knot(int what) {
        if (what < 0 || what > 1) {
            return -1;
        }
        int r = rank();
        State old = now;
        try {
            for (int p = 0; p < pulls(); p++) {
                for (int l = 0; l < lamps() && !old.stuck[p]; l++) {
                    now = new State(old);
                    if (!now.ties.get(p).remove(l)) {
                        now.ties.get(p).add(l);
                    }
                    if (rank() > r) {
                        return what == 0 ? p : l;
                    }
                }
            }
            return -2;
        } finally {
            now = old;
        }
    }

    int apart(int a, int b) {
        if (!areLamps(a) || !areLamps(b)) {
            return -1;
        }
        int s = fewestOf(waysFrom(a, b));
        return s < 0 ? s : Integer.bitCount(s);
    }

    int evenings(int many) {
        if (many < 0 || many > 14) {
            return -1;
        }
        Set<Integer> all = new HashSet<>();
        for (int set : ways()) {
            int ev = bits(now.on) ^ sum(now.ties, set);
            if (Integer.bitCount(ev) == many) {
                all.add(ev);
            }
        }
        return all.size();
    }

    /** 1: who is to ring wins, -1: the other one, 0: nobody. */
    int play(int set, int on, Map<Integer, Integer> memo) {
        Integer old = memo.get(set);
        if (old != null) {
            return old;
        }
        int best = -2;
        for (int p = 0; p < pulls(); p++) {
            if ((set >> p & 1) == 0 && !now.stuck[p]) {
                int then = on ^ bits(now.ties.get(p));
                best = Math.max(best, then == 0 ? 1 : -play(set | 1 << p, then, memo));
            }
        }
        best = best == -2 ? 0 : best;
        memo.put(set, best);
        return best;
    }

    int game(int what) {
        if (what < 0 || what > 1) {
            return -1;
        }
        int on = bits(now.on);
        Map<Integer, Integer> memo = new HashMap<>();
        int v = on == 0 ? 0 : play(0, on, memo);
        if (what == 0) {
            return v == 1 ? 0 : v == -1 ? 1 : 2;
        }
        for (int p = 0; p < pulls() && on != 0; p++) {
            if (!now.stuck[p]) {
                int then = on ^ bits(now.ties.get(p));
                if ((then == 0 ? 1 : -play(1 << p, then, memo)) == v) {
                    return p;
                }
            }
        }
        return -2;
    }

    long holds(int n, int what) {
        if (n < 0 || n > 6 || what < 0 || what > 1) {
            return -1;
        }
        BigInteger a = BigInteger.valueOf(100 - (text.burn == null ? 0 : text.burn)).pow(n);
        BigInteger b = BigInteger.valueOf(100).pow(n);
        return (what == 0 ? a : b).divide(a.gcd(b)).longValueExact();
    }

    // ---- notes

    int note(int what, int its, boolean is) {
        if (notes.size() == 24 || !(what == 0 && isLamp(its) || what == 1 && isPull(its))) {
            return -1;
        }
        notes.add(new int[] {what, its, is ? 1 : 0});
        return notes.size() - 1;
    }

    int strike(int note) {
        if (notes.size() == 24 || note < 0 || note >= notes.size()) {
            return -1;
        }
        notes.add(new int[] {2, note, 0});
        return notes.size() - 1;
    }

    boolean known(int n) {
        if (n < -1 || n > notes.size()) {
            return false;
        }
        first = n;
        return true;
    }

    int knownBy() {
        return first < 0 ? notes.size() : first;
    }

    boolean counts(int i) {
        for (int k = i + 1; k < knownBy(); k++) {
            if (notes.get(k)[0] == 2 && notes.get(k)[1] == i && counts(k)) {
                return false;
            }
        }
        return true;
    }

    List<Integer> fitting() {
        List<Integer> found = new ArrayList<>();
        boolean[] counted = new boolean[knownBy()];
        for (int k = 0; k < counted.length; k++) {
            counted[k] = counts(k);
        }
        for (int set = 0; set < 1 << pulls(); set++) {
            int ev = bits(text.lit) ^ sum(text.ties, set);
            boolean fits = true;
            for (int k = 0; k < counted.length; k++) {
                int[] x = notes.get(k);
                if (counted[k] && x[0] < 2) {
                    fits &= ((x[0] == 0 ? ev : set) >> x[1] & 1) == x[2];
                }
            }
            if (fits) {
                found.add(set);
            }
        }
        return found;
    }

    int fits() {
        return fitting().size();
    }

    int rang(int p) {
        if (!isPull(p)) {
            return -1;
        }
        List<Integer> s = fitting();
        int n = 0;
        for (int set : s) {
            n += set >> p & 1;
        }
        return s.isEmpty() ? -2 : n == s.size() ? 1 : n == 0 ? 0 : 2;
    }

    int ask() {
        List<Integer> s = fitting();
        for (int l = 0; l < lamps(); l++) {
            int n = 0;
            for (int set : s) {
                n += (bits(text.lit) ^ sum(text.ties, set)) >> l & 1;
            }
            if (n > 0 && n < s.size()) {
                return l;
            }
        }
        return -2;
    }

    // ---- chance, tried, undone, images

    int chance(int seed, int n, int l) {
        if (seed < 0 || n < 1 || n > 99 || !isLamp(l)) {
            return -1;
        }
        long number = seed;
        int x = 0;
        for (int k = 0; k < 10; k++) {
            State s = new State(now);
            s.number = number;
            for (int m = 0; m < n; m++) {
                minute(s, true, -1, 0);
            }
            number = s.number;
            x += s.burnt[l] ? 1 : 0;
        }
        return x;
    }

    int tried(int what, int i, int n) {
        if (n < 0 || n > 200 || what < 0 || what > 4 || (what == 2 ? !isPull(i) : i != 0)) {
            return -1;
        }
        State s = new State(now);
        if (what == 4) {
            Arrays.fill(s.stuck, false);
            Arrays.fill(s.burnt, false);
        }
        for (int k = 0; k < n; k++) {
            minute(s, false, what, i);
        }
        return s.shown();
    }

    int undo() {
        if (before.isEmpty()) {
            return -1;
        }
        now = before.remove(before.size() - 1);
        return before.size();
    }

    int keep() {
        image = new State(now);
        return now.minute;
    }

    int back() {
        if (image == null) {
            return -1;
        }
        now = new State(image);
        before.clear();
        return now.minute;
    }

    int count(int what) {
        int ties = 0;
        for (Set<Integer> s : now.ties) {
            ties += s.size();
        }
        int[] all = {lamps(), pulls(), text.rings.size(), text.knots, now.minute, now.shown(),
            Integer.bitCount(bits(now.on)), Integer.bitCount(bits(now.burnt)), Integer.bitCount(bits(now.stuck)),
            now.toll, now.vain, ties, notes.size(), knownBy(), before.size()};
        return what < 0 || what >= all.length ? -1 : all[what];
    }
}
