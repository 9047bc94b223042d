import java.util.NoSuchElementException;

/**
 * Bell-pulls of the almshouse, as ../shared/DOC.md promises them.
 *
 * <p>Sets of lamps and of pulls are held as bits. Every row is made in a
 * constructor and used again, so that no call makes an object.
 */
public final class BellPulls {
    public static final int NONE = -1;

    /** The document's second refusal: what is asked of is there, but has no such answer. */
    private static final int NOT_SO = -2;

    private static final int MOST_BYTES = 700;
    private static final int BYTES_OF_FEED = 20;
    private static final int MOST_LAMPS = 14;
    private static final int MOST_PULLS = 10;
    private static final int MOST_SETS = 1 << MOST_PULLS;
    private static final int MOST_RINGS = 14;
    private static final int MOST_MENDINGS = 4;
    private static final int MOST_KNOTS = 64;
    private static final int MOST_OPEN = 8;
    private static final int MOST_NOTES = 24;
    private static final int MOST_UNDONE = 20;

    private static final int MOST_MINUTES_AT_ONCE = 200;
    private static final int MOST_MINUTES_OF_CHANCE = 99;
    private static final int MOST_MINUTES_OF_HOLDS = 6;
    private static final int LAST_MINUTE = 9000;
    private static final int LAST_DARK = 199;
    private static final int TIMES_OF_CHANCE = 10;

    private static final int MOST_COST = 99;
    private static final int MOST_MINUTE_TOLD = 99;
    private static final int MOST_SEED_TOLD = 99999;
    private static final int MOST_TOLL = 99999;
    private static final int MOST_TOLL_OF_ONE = 999;
    private static final int MOST_WORN = 999;
    private static final int MOST_AGE = 999;
    private static final int HUNDRED = 100;
    private static final int BURNS_AS_IT_GOES = 50;

    private static final int TOLL_LAW = 0;
    private static final int STICK_LAW = 1;
    private static final int FATE_LAW = 2;
    private static final int LAWS = 3;

    /** Stands for an ERROR: no VALUE is so low. */
    private static final long ERROR = Long.MIN_VALUE;
    private static final long MOST_VALUE = 1000000000000L;

    private static final int FAULT_TOKEN = 1;
    private static final int FAULT_TOO_MUCH = 2;
    private static final int FAULT_TOLD_ALREADY = 3;
    private static final int FAULT_NOT_TOLD = 4;

    private static final int LETTERS = 6;
    private static final int LETTER_BITS = 5;
    private static final int MOST_NUMBER_OF_LAW = 9999;
    /** A number stops growing here: every limit of the language is lower. */
    private static final int NUMBER_BEYOND_ALL = 1000000;
    /** A law's steps are its numbers as they are, and behind them the kinds of its other tokens. */
    private static final int STEP_OF_KIND = 10000;

    // Kinds of tokens; those of words and signs stand in the order of WORDS and SIGNS.
    private static final int END = 0;
    private static final int WRONG = 1;
    private static final int NUMBER = 2;
    private static final int NAME = 3;
    private static final int LAMP = 10;
    private static final int PULL = 11;
    private static final int LIT = 12;
    private static final int RING = 13;
    private static final int MEND = 14;
    private static final int BURN = 15;
    private static final int SEED = 16;
    private static final int LAW = 17;
    private static final int TOLL = 18;
    private static final int FATE = 20;
    private static final int OR = 21;
    private static final int AND = 22;
    private static final int NOT = 23;
    private static final int COST = 24;
    private static final int MINUTE = 30;
    private static final int PLUS = 31;
    private static final int MINUS = 32;
    private static final int TIMES = 33;
    private static final int DIVIDE = 34;
    private static final int LESS = 35;
    private static final int EQUAL = 36;
    private static final int MORE = 37;
    private static final int OPEN = 38;
    private static final int CLOSE = 39;
    private static final int SEMICOLON = 40;
    private static final int LESS_EQUAL = 41;
    private static final int UNEQUAL = 42;
    private static final int MORE_EQUAL = 43;

    /** Six places for each word of the language, in the order of their kinds. */
    private static final String WORDS =
            "lamp  pull  lit   ring  mend  burn  seed  law   toll  stick fate  or    and   not   cost  worn  shown ties  out   age   minute";
    private static final String SIGNS = "+-*/<=>();";

    // The places of the NAMES, in the order of their kinds.
    private static final int OF_COST = 0;
    private static final int OF_WORN = 1;
    private static final int OF_SHOWN = 2;
    private static final int OF_TIES = 3;
    private static final int OF_OUT = 4;
    private static final int OF_AGE = 5;
    private static final int OF_MINUTE = 6;
    private static final int NAMES = 7;

    // How a game ends for the one whose turn it is.
    private static final int LOST = 0;
    private static final int NOBODY = 1;
    private static final int WON = 2;

    private final Reader reader = new Reader();
    private Told told = new Told();
    private final House house = new House();
    private final House trial = new House();
    private final House image = new House();
    private boolean imaged;
    private final Course course = new Course();
    private final Undoing undoing = new Undoing();
    private final Notes notes = new Notes();
    private final Sets sets = new Sets();
    private final Basis base = new Basis();

    public BellPulls() {
        imaged = false;
    }

    public int feed(int a, int b, int c, int d, int e) {
        if (reader.fed + BYTES_OF_FEED > MOST_BYTES) {
            return NONE;
        }
        reader.take(a);
        reader.take(b);
        reader.take(c);
        reader.take(d);
        reader.take(e);
        return reader.fed;
    }

    public int text(int n) {
        if (n < 0 || n > reader.fed) {
            return NOT_SO;
        }
        reader.begin(n);
        int lines = 0;
        while (lines <= n && reader.hasMore() && reader.readLine()) {
            lines++;
        }
        if (reader.fault != 0) {
            return NONE;
        }
        told = reader.giveFor(told);
        house.begin(told);
        notes.forget();
        undoing.forget();
        imaged = false;
        return lines;
    }

    public int fault(int what) {
        switch (what) {
            case 0:
                return reader.fault;
            case 1:
                return reader.faultPlace;
            default:
                return NONE;
        }
    }

    public int named(int what, int letters) {
        switch (what) {
            case 0:
                return told.lampCalled(letters);
            case 1:
                return told.pullCalled(letters);
            default:
                return NONE;
        }
    }

    public int lamp(int lamp, int what) throws IndexOutOfBoundsException, NoSuchElementException {
        if (!isLamp(lamp)) {
            throw new IndexOutOfBoundsException("no such lamp");
        }
        switch (what) {
            case 0:
                return (house.on >> lamp) & 1;
            case 1:
                return (house.burnt >> lamp) & 1;
            case 2:
                return house.ages[lamp];
            case 3:
                return house.pullsTiedTo(lamp);
            default:
                throw new NoSuchElementException("no such what");
        }
    }

    public int pull(int pull, int what) {
        if (!isPull(pull)) {
            return NONE;
        }
        switch (what) {
            case 0:
                return told.costs[pull];
            case 1:
                return (house.stuck >> pull) & 1;
            case 2:
                return house.worn[pull];
            case 3:
                return house.ties[pull];
            default:
                return NONE;
        }
    }

    public int evening(int what) {
        switch (what) {
            case 0:
                return house.shownLamps();
            case 1:
                return house.on;
            case 2:
                return house.burnt;
            default:
                return NONE;
        }
    }

    public long law(int what, int its) {
        boolean there = what == FATE_LAW ? isLamp(its) : isPull(its);
        if (what < 0 || what >= LAWS || !there) {
            return ERROR;
        }
        return course.worth(told, house, what, its);
    }

    public int ring(int pull) {
        if (!isPull(pull)) {
            return NONE;
        }
        if (((house.stuck >> pull) & 1) != 0) {
            return NOT_SO;
        }
        undoing.remember(house, pull);
        course.asDrawn();
        course.rung(told, house, pull);
        return Integer.bitCount(house.shownLamps());
    }

    public int tie(int pull, int lamp) {
        if (!isPull(pull) || !isLamp(lamp)) {
            return NONE;
        }
        undoing.remember(house, pull);
        house.ties[pull] ^= 1 << lamp;
        return (house.ties[pull] >> lamp) & 1;
    }

    public boolean mend() {
        if (house.stuck == 0 && house.burnt == 0) {
            return false;
        }
        undoing.remember(house, NONE);
        house.makeWhole();
        return true;
    }

    public int go(int n) {
        if (n < 0 || n > MOST_MINUTES_AT_ONCE || house.minute + n > LAST_MINUTE) {
            return NONE;
        }
        if (n > 0) {
            undoing.forget();
        }
        course.asDrawn();
        course.run(told, house, n);
        return house.minute;
    }

    public int ahead(int n, int what) {
        if (n < 0 || n > MOST_MINUTES_AT_ONCE || what < 0 || what > 4) {
            return NONE;
        }
        trial.become(house);
        course.asItGoes();
        course.run(told, trial, n);
        switch (what) {
            case 0:
                return Integer.bitCount(trial.shownLamps());
            case 1:
                return trial.toll - house.toll;
            case 2:
                return trial.vain - house.vain;
            case 3:
                return Integer.bitCount(trial.burnt);
            default:
                return Integer.bitCount(trial.stuck);
        }
    }

    public int dark(int lamp) {
        if (!isLamp(lamp)) {
            return NONE;
        }
        trial.become(house);
        course.asItGoes();
        for (int minutes = 0; minutes <= LAST_DARK; minutes++) {
            if (((trial.shownLamps() >> lamp) & 1) == 0) {
                return minutes;
            }
            course.run(told, trial, 1);
        }
        return NOT_SO;
    }

    public int ways(int lamps) {
        if (!areLamps(lamps)) {
            return NONE;
        }
        gatherFree();
        return sets.howMany(house.on ^ lamps);
    }

    public int fewest(int lamps) {
        if (!areLamps(lamps)) {
            return NONE;
        }
        gatherFree();
        return sets.ofFewest(house.on ^ lamps);
    }

    public int cheapest(int lamps, int what) {
        if (!areLamps(lamps) || what < 0 || what > 1) {
            return NONE;
        }
        gatherFree();
        int set = sets.ofLeastCost(house.on ^ lamps, told);
        return set < 0 || what == 0 ? set : told.costOf(set);
    }

    public int must(int lamps, int what) {
        if (!areLamps(lamps) || what < 0 || what > 1) {
            return NONE;
        }
        gatherFree();
        int turned = house.on ^ lamps;
        if (sets.howMany(turned) == 0) {
            return NOT_SO;
        }
        return what == 0 ? sets.inAll(turned) : sets.inNone(turned);
    }

    public int rank() {
        return Integer.bitCount(basisNow());
    }

    public int basis() {
        return basisNow();
    }

    public int sumOf(int pull) {
        if (!isPull(pull)) {
            return NONE;
        }
        int free = house.freePulls(told);
        if (((free >> pull) & 1) == 0) {
            return NOT_SO;
        }
        base.settle(house.ties, pull, free);
        return base.partsOf(house.ties[pull]);
    }

    public int silent(int what) {
        if (what < 0 || what > 1) {
            return NONE;
        }
        gatherFree();
        return what == 0 ? sets.howMany(0) - 1 : sets.ofFewestSilent();
    }

    public int darkest(int what) {
        if (what < 0 || what > 2) {
            return NONE;
        }
        gatherFree();
        int set = sets.ofDarkest(house.on);
        int evening = house.on ^ sets.turnedBy(set);
        switch (what) {
            case 0:
                return Integer.bitCount(evening);
            case 1:
                return set;
            default:
                return evening;
        }
    }

    public int twins(int lamp) {
        if (!isLamp(lamp)) {
            return NONE;
        }
        int free = house.freePulls(told);
        int pulls = house.pullsTiedTo(lamp) & free;
        int found = 0;
        for (int other = 0; other < told.lamps; other++) {
            if (other != lamp && (house.pullsTiedTo(other) & free) == pulls) {
                found |= 1 << other;
            }
        }
        return found;
    }

    public int fixed() {
        int free = house.freePulls(told);
        int found = 0;
        for (int lamp = 0; lamp < told.lamps; lamp++) {
            if ((house.pullsTiedTo(lamp) & free) == 0) {
                found |= 1 << lamp;
            }
        }
        return found;
    }

    public int knot(int what) {
        if (what < 0 || what > 1) {
            return NONE;
        }
        int rank = Integer.bitCount(basisNow());
        int free = house.freePulls(told);
        for (int pull = 0; pull < told.pulls; pull++) {
            if (((free >> pull) & 1) == 0) {
                continue;
            }
            int lamp = lampThatOpens(pull, rank);
            if (lamp != NONE) {
                return what == 0 ? pull : lamp;
            }
        }
        return NOT_SO;
    }

    public int apart(int one, int other) {
        if (!areLamps(one) || !areLamps(other)) {
            return NONE;
        }
        gatherFree();
        int set = sets.ofFewest(one ^ other);
        return set < 0 ? set : Integer.bitCount(set);
    }

    public int evenings(int many) {
        if (many < 0 || many > MOST_LAMPS) {
            return NONE;
        }
        gatherFree();
        return sets.eveningsOf(house.on, many, basisNow());
    }

    public int game(int what) {
        if (what < 0 || what > 1) {
            return NONE;
        }
        int free = house.freePulls(told);
        if (house.on == 0 || free == 0) {
            return what == 0 ? 2 : NOT_SO;
        }
        gatherFree();
        int outcome = sets.play(house.on);
        if (what == 1) {
            return sets.firstPullTo(outcome, house.on);
        }
        switch (outcome) {
            case WON:
                return 0;
            case LOST:
                return 1;
            default:
                return 2;
        }
    }

    public long holds(int n, int what) {
        if (n < 0 || n > MOST_MINUTES_OF_HOLDS || what < 0 || what > 1) {
            return NONE;
        }
        int above = HUNDRED - told.burnOdds();
        int common = HUNDRED;
        while (common > 1 && (above % common != 0 || HUNDRED % common != 0)) {
            common--;
        }
        // Powers of two numbers without a common part have none either.
        long one = (what == 0 ? above : HUNDRED) / common;
        long all = 1;
        for (int i = 0; i < n; i++) {
            all *= one;
        }
        return all;
    }

    public int note(int what, int its, boolean is) {
        boolean there = what == 0 ? isLamp(its) : what == 1 && isPull(its);
        return there ? notes.write(what, its, is) : NONE;
    }

    public int strike(int note) {
        return notes.writeStrike(note);
    }

    public boolean known(int n) {
        if (n < NONE || n > notes.many) {
            return false;
        }
        notes.first = n;
        return true;
    }

    public int fits() {
        return lookAtNotes();
    }

    public int rang(int pull) {
        if (!isPull(pull)) {
            return NONE;
        }
        if (lookAtNotes() == 0) {
            return NOT_SO;
        }
        if (((notes.rungByAll >> pull) & 1) != 0) {
            return 1;
        }
        return ((notes.rungBySome >> pull) & 1) != 0 ? 2 : 0;
    }

    public int ask() {
        if (lookAtNotes() == 0) {
            return NOT_SO;
        }
        int open = notes.onBySome & ~notes.onByAll;
        return open == 0 ? NOT_SO : Integer.numberOfTrailingZeros(open);
    }

    public int chance(int seed, int n, int lamp) {
        if (seed < 0 || n < 1 || n > MOST_MINUTES_OF_CHANCE || !isLamp(lamp)) {
            return NONE;
        }
        int number = seed;
        int burnt = 0;
        course.asDrawn();
        for (int time = 0; time < TIMES_OF_CHANCE; time++) {
            trial.become(house);
            trial.number = number;
            course.run(told, trial, n);
            number = trial.number;
            burnt += (trial.burnt >> lamp) & 1;
        }
        return burnt;
    }

    public int tried(int what, int i, int n) {
        boolean there = what == 2 ? isPull(i) : i == 0;
        if (what < 0 || what > 4 || !there || n < 0 || n > MOST_MINUTES_AT_ONCE) {
            return NONE;
        }
        trial.become(house);
        course.asItGoes();
        course.otherwise(what, i);
        if (what == 4) {
            trial.makeWhole();
        }
        course.run(told, trial, n);
        return Integer.bitCount(trial.shownLamps());
    }

    public int undo() {
        return undoing.takeBack(house);
    }

    public int keep() {
        image.become(house);
        imaged = true;
        return house.minute;
    }

    public int back() {
        if (!imaged) {
            return NONE;
        }
        house.become(image);
        undoing.forget();
        return house.minute;
    }

    public int count(int what) {
        switch (what) {
            case 0:
                return told.lamps;
            case 1:
                return told.pulls;
            case 2:
                return told.rings;
            case 3:
                return told.knots;
            case 4:
                return house.minute;
            case 5:
                return Integer.bitCount(house.shownLamps());
            case 6:
                return Integer.bitCount(house.on);
            case 7:
                return Integer.bitCount(house.burnt);
            case 8:
                return Integer.bitCount(house.stuck);
            case 9:
                return house.toll;
            case 10:
                return house.vain;
            case 11:
                return house.howManyTies();
            case 12:
                return notes.many;
            case 13:
                return notes.howManyKnown();
            case 14:
                return undoing.many;
            default:
                return NONE;
        }
    }

    private boolean isLamp(int lamp) {
        return lamp >= 0 && lamp < told.lamps;
    }

    private boolean isPull(int pull) {
        return pull >= 0 && pull < told.pulls;
    }

    private boolean areLamps(int lamps) {
        return lamps >= 0 && lamps < 1 << told.lamps;
    }

    private void gatherFree() {
        sets.gather(house.ties, told.pulls, house.freePulls(told));
    }

    private int basisNow() {
        return base.settle(house.ties, told.pulls, house.freePulls(told));
    }

    private int lampThatOpens(int pull, int rank) {
        for (int lamp = 0; lamp < told.lamps; lamp++) {
            house.ties[pull] ^= 1 << lamp;
            int then = Integer.bitCount(basisNow());
            house.ties[pull] ^= 1 << lamp;
            if (then > rank) {
                return lamp;
            }
        }
        return NONE;
    }

    private int lookAtNotes() {
        // NOTES are of the TEXT's own ties and of all its pulls, whatever is stuck now.
        sets.gather(told.ties, told.pulls, (1 << told.pulls) - 1);
        return notes.look(sets, told.lit);
    }

    /** What a TEXT tells. */
    private static final class Told {
        int lamps;
        int pulls;
        int lit;
        int rings;
        int mendings;
        int burn;
        int seed;
        int knots;
        final int[] lampNames = new int[MOST_LAMPS];
        final int[] pullNames = new int[MOST_PULLS];
        final int[] costs = new int[MOST_PULLS];
        final int[] ties = new int[MOST_PULLS];
        final int[] ringPulls = new int[MOST_RINGS];
        final int[] ringMinutes = new int[MOST_RINGS];
        final int[] mendMinutes = new int[MOST_MENDINGS];
        /** The steps of all laws, each law's values ahead of the sign that takes them. */
        final int[] steps = new int[MOST_KNOTS];
        final int[] lawFrom = new int[LAWS];
        final int[] lawTo = new int[LAWS];

        Told() {
            burn = NONE;
            seed = NONE;
        }

        void empty() {
            lamps = 0;
            pulls = 0;
            lit = 0;
            rings = 0;
            mendings = 0;
            burn = NONE;
            seed = NONE;
            knots = 0;
            for (int law = 0; law < LAWS; law++) {
                lawFrom[law] = 0;
                lawTo[law] = 0;
            }
        }

        int lampCalled(int letters) {
            for (int lamp = 0; lamp < lamps; lamp++) {
                if (lampNames[lamp] == letters) {
                    return lamp;
                }
            }
            return NONE;
        }

        int pullCalled(int letters) {
            for (int pull = 0; pull < pulls; pull++) {
                if (pullNames[pull] == letters) {
                    return pull;
                }
            }
            return NONE;
        }

        boolean hasLaw(int law) {
            return lawTo[law] > lawFrom[law];
        }

        int burnOdds() {
            return burn == NONE ? 0 : burn;
        }

        int firstNumber() {
            return seed == NONE ? 0 : seed;
        }

        boolean mendsIn(int minute) {
            for (int i = 0; i < mendings; i++) {
                if (mendMinutes[i] == minute) {
                    return true;
                }
            }
            return false;
        }

        int costOf(int set) {
            int cost = 0;
            for (int pull = 0; pull < pulls; pull++) {
                if (((set >> pull) & 1) != 0) {
                    cost += costs[pull];
                }
            }
            return cost;
        }
    }

    /** How lamps and pulls are in some MINUTE. */
    private static final class House {
        int minute;
        int on;
        int burnt;
        int stuck;
        int toll;
        int vain;
        int number;
        final int[] ages = new int[MOST_LAMPS];
        final int[] ties = new int[MOST_PULLS];
        final int[] worn = new int[MOST_PULLS];

        void begin(Told told) {
            minute = 0;
            on = told.lit;
            burnt = 0;
            stuck = 0;
            toll = 0;
            vain = 0;
            number = told.firstNumber();
            for (int lamp = 0; lamp < MOST_LAMPS; lamp++) {
                ages[lamp] = 0;
            }
            for (int pull = 0; pull < MOST_PULLS; pull++) {
                // Rows behind the last pull may hold what an earlier text told.
                ties[pull] = pull < told.pulls ? told.ties[pull] : 0;
                worn[pull] = 0;
            }
        }

        void become(House other) {
            minute = other.minute;
            on = other.on;
            burnt = other.burnt;
            stuck = other.stuck;
            toll = other.toll;
            vain = other.vain;
            number = other.number;
            System.arraycopy(other.ages, 0, ages, 0, MOST_LAMPS);
            System.arraycopy(other.ties, 0, ties, 0, MOST_PULLS);
            System.arraycopy(other.worn, 0, worn, 0, MOST_PULLS);
        }

        int shownLamps() {
            return on & ~burnt;
        }

        int freePulls(Told told) {
            return ((1 << told.pulls) - 1) & ~stuck;
        }

        int pullsTiedTo(int lamp) {
            int found = 0;
            for (int pull = 0; pull < MOST_PULLS; pull++) {
                found |= ((ties[pull] >> lamp) & 1) << pull;
            }
            return found;
        }

        int howManyTies() {
            int many = 0;
            for (int pull = 0; pull < MOST_PULLS; pull++) {
                many += Integer.bitCount(ties[pull]);
            }
            return many;
        }

        void makeWhole() {
            stuck = 0;
            burnt = 0;
        }

        int draw() {
            number = (number * 1103515245 + 12345) & 0x7fffffff;
            return number / 65536;
        }
    }

    /** How MINUTES go by: with numbers or as it goes, and what is tried otherwise. */
    private static final class Course {
        private boolean drawn;
        private boolean burning;
        private boolean sticking;
        private boolean mending;
        private int unrung;
        private final int[] names = new int[NAMES];
        private final long[] values = new long[MOST_KNOTS];

        void asDrawn() {
            drawn = true;
            otherwise(NONE, NONE);
        }

        void asItGoes() {
            drawn = false;
            otherwise(NONE, NONE);
        }

        void otherwise(int what, int pull) {
            burning = what != 0;
            sticking = what != 1;
            unrung = what == 2 ? pull : NONE;
            mending = what != 3;
        }

        void run(Told told, House house, int minutes) {
            for (int gone = 0; gone < minutes; gone++) {
                if (mending && told.mendsIn(house.minute)) {
                    house.makeWhole();
                }
                for (int i = 0; i < told.rings; i++) {
                    if (told.ringMinutes[i] == house.minute && told.ringPulls[i] != unrung) {
                        rung(told, house, told.ringPulls[i]);
                    }
                }
                for (int lamp = 0; lamp < told.lamps; lamp++) {
                    if (((house.shownLamps() >> lamp) & 1) != 0) {
                        age(told, house, lamp);
                    }
                }
                house.minute++;
            }
        }

        void rung(Told told, House house, int pull) {
            if (pull < 0 || pull >= told.pulls) {
                return;
            }
            if (((house.stuck >> pull) & 1) != 0) {
                house.vain++;
                return;
            }
            long toll = worth(told, house, TOLL_LAW, pull);
            toll = toll == ERROR ? told.costs[pull] : Math.max(0, Math.min(MOST_TOLL_OF_ONE, toll));
            house.on ^= house.ties[pull];
            house.toll = Math.min(MOST_TOLL, house.toll + (int) toll);
            house.worn[pull] = Math.min(MOST_WORN, house.worn[pull] + 1);
            long sticks = worth(told, house, STICK_LAW, pull);
            if (sticking && sticks != 0 && sticks != ERROR) {
                house.stuck |= 1 << pull;
            }
        }

        private void age(Told told, House house, int lamp) {
            house.ages[lamp] = Math.min(MOST_AGE, house.ages[lamp] + 1);
            long fate = worth(told, house, FATE_LAW, lamp);
            int odds = fate == ERROR ? told.burnOdds() : (int) Math.max(0, Math.min(HUNDRED, fate));
            boolean burns;
            if (drawn && odds > 0 && odds < HUNDRED) {
                burns = house.draw() % HUNDRED < odds;
            } else {
                burns = odds >= BURNS_AS_IT_GOES;
            }
            if (burning && burns) {
                house.burnt |= 1 << lamp;
            }
        }

        /** A law's E of one pull or lamp that is there; ERROR without such a law, too. */
        long worth(Told told, House house, int law, int its) {
            if (!told.hasLaw(law)) {
                return ERROR;
            }
            boolean ofPull = law != FATE_LAW;
            names[OF_COST] = ofPull ? told.costs[its] : 0;
            names[OF_WORN] = ofPull ? house.worn[its] : 0;
            names[OF_SHOWN] = Integer.bitCount(house.shownLamps());
            names[OF_TIES] = Integer.bitCount(ofPull ? house.ties[its] : house.pullsTiedTo(its));
            names[OF_OUT] = Integer.bitCount(house.burnt);
            names[OF_AGE] = ofPull ? 0 : house.ages[its];
            names[OF_MINUTE] = house.minute;
            return reckon(told, law);
        }

        private long reckon(Told told, int law) {
            int many = 0;
            for (int i = told.lawFrom[law]; i < told.lawTo[law] && i < MOST_KNOTS; i++) {
                int step = told.steps[i];
                int kind = step - STEP_OF_KIND;
                if (kind < 0 || kind >= COST && kind <= MINUTE) {
                    if (many >= MOST_KNOTS) {
                        return ERROR;
                    }
                    values[many] = kind < 0 ? step : names[kind - COST];
                    many++;
                } else if (kind == NOT) {
                    if (many < 1) {
                        return ERROR;
                    }
                    values[many - 1] = asValue(values[many - 1] == 0);
                } else {
                    if (many < 2) {
                        return ERROR;
                    }
                    many--;
                    values[many - 1] = joined(kind, values[many - 1], values[many]);
                    if (values[many - 1] == ERROR) {
                        return ERROR;
                    }
                }
            }
            return many == 1 ? values[0] : ERROR;
        }

        private static long joined(int sign, long left, long right) {
            switch (sign) {
                case OR:
                    return asValue(left != 0 || right != 0);
                case AND:
                    return asValue(left != 0 && right != 0);
                case LESS:
                    return asValue(left < right);
                case LESS_EQUAL:
                    return asValue(left <= right);
                case EQUAL:
                    return asValue(left == right);
                case UNEQUAL:
                    return asValue(left != right);
                case MORE_EQUAL:
                    return asValue(left >= right);
                case MORE:
                    return asValue(left > right);
                case PLUS:
                    return bounded(left + right);
                case MINUS:
                    return bounded(left - right);
                case TIMES:
                    return product(left, right);
                case DIVIDE:
                    return right == 0 ? ERROR : left / right;
                default:
                    return ERROR;
            }
        }

        private static long asValue(boolean so) {
            return so ? 1 : 0;
        }

        private static long bounded(long value) {
            return value > MOST_VALUE || value < -MOST_VALUE ? ERROR : value;
        }

        private static long product(long left, long right) {
            // Two VALUES may multiply to more than a long holds, so the bound is looked at first.
            if (left != 0 && Math.abs(right) > MOST_VALUE / Math.abs(left)) {
                return ERROR;
            }
            return left * right;
        }
    }

    /** What calls did since the last MINUTE: how it was ahead of each of the latest ones. */
    private static final class Undoing {
        int many;
        private int next;
        private final int[] ons = new int[MOST_UNDONE];
        private final int[] burnts = new int[MOST_UNDONE];
        private final int[] stucks = new int[MOST_UNDONE];
        private final int[] tolls = new int[MOST_UNDONE];
        private final int[] pulls = new int[MOST_UNDONE];
        private final int[] ties = new int[MOST_UNDONE];
        private final int[] worns = new int[MOST_UNDONE];

        void forget() {
            many = 0;
            next = 0;
        }

        /** Of one call, only one pull's ties and wear can change: those of NONE are not kept. */
        void remember(House house, int pull) {
            if (next < 0 || next >= MOST_UNDONE) {
                return;
            }
            boolean ofPull = pull >= 0 && pull < MOST_PULLS;
            ons[next] = house.on;
            burnts[next] = house.burnt;
            stucks[next] = house.stuck;
            tolls[next] = house.toll;
            pulls[next] = ofPull ? pull : NONE;
            ties[next] = ofPull ? house.ties[pull] : 0;
            worns[next] = ofPull ? house.worn[pull] : 0;
            // The rows go round, so that the oldest is lost when there are too many.
            next = next + 1 < MOST_UNDONE ? next + 1 : 0;
            many = Math.min(MOST_UNDONE, many + 1);
        }

        int takeBack(House house) {
            if (many <= 0) {
                return NONE;
            }
            many--;
            next = next > 0 ? next - 1 : MOST_UNDONE - 1;
            house.on = ons[next];
            house.burnt = burnts[next];
            house.stuck = stucks[next];
            house.toll = tolls[next];
            int pull = pulls[next];
            if (pull >= 0 && pull < MOST_PULLS) {
                house.ties[pull] = ties[next];
                house.worn[pull] = worns[next];
            }
            return many;
        }
    }

    /** NOTES and STRIKES, and what the KNOWN ones leave open. */
    private static final class Notes {
        private static final int OF_LAMP = 0;
        private static final int OF_PULL = 1;
        private static final int OF_NOTE = 2;

        int many;
        /** It is KNOWN by the first so many; NONE: by all. */
        int first;
        int rungByAll;
        int rungBySome;
        int onByAll;
        int onBySome;
        private int lampsOn;
        private int lampsOff;
        private int pullsRung;
        private int pullsLeft;
        private final int[] whats = new int[MOST_NOTES];
        private final int[] theirs = new int[MOST_NOTES];
        private final boolean[] sos = new boolean[MOST_NOTES];

        Notes() {
            first = NONE;
        }

        void forget() {
            many = 0;
            first = NONE;
        }

        int write(int what, int its, boolean is) {
            if (many < 0 || many >= MOST_NOTES) {
                return NONE;
            }
            whats[many] = what;
            theirs[many] = its;
            sos[many] = is;
            many++;
            return many - 1;
        }

        int writeStrike(int note) {
            return note < 0 || note >= many ? NONE : write(OF_NOTE, note, true);
        }

        int howManyKnown() {
            return first == NONE ? many : first;
        }

        /** How many sets of pulls fit what is known; what they have in common is kept. */
        int look(Sets sets, int lit) {
            gatherKnown();
            int fitting = 0;
            rungByAll = -1;
            rungBySome = 0;
            onByAll = -1;
            onBySome = 0;
            for (int set = 0; set < sets.many && set < MOST_SETS; set++) {
                int evening = lit ^ sets.turned[set];
                if (isFitting(set, evening)) {
                    fitting++;
                    rungByAll &= set;
                    rungBySome |= set;
                    onByAll &= evening;
                    onBySome |= evening;
                }
            }
            return fitting;
        }

        private boolean isFitting(int set, int evening) {
            return (evening & lampsOn) == lampsOn && (evening & lampsOff) == 0
                    && (set & pullsRung) == pullsRung && (set & pullsLeft) == 0;
        }

        private void gatherKnown() {
            lampsOn = 0;
            lampsOff = 0;
            pullsRung = 0;
            pullsLeft = 0;
            int struck = 0;
            // From the last one on: what strikes a STRIKE comes behind it.
            for (int i = Math.min(howManyKnown(), MOST_NOTES) - 1; i >= 0; i--) {
                if (((struck >> i) & 1) == 0) {
                    if (whats[i] == OF_NOTE) {
                        struck |= 1 << theirs[i];
                    } else {
                        gatherOne(whats[i], 1 << theirs[i], sos[i]);
                    }
                }
            }
        }

        private void gatherOne(int what, int bit, boolean so) {
            if (what == OF_LAMP && so) {
                lampsOn |= bit;
            } else if (what == OF_LAMP) {
                lampsOff |= bit;
            } else if (what == OF_PULL && so) {
                pullsRung |= bit;
            } else {
                pullsLeft |= bit;
            }
        }
    }

    /** All sets of pulls, each pull rung once or not at all, and what each of them turns over. */
    private static final class Sets {
        int many;
        final int[] turned = new int[MOST_SETS];
        private int free;
        private final int[] outcomes = new int[MOST_SETS];

        Sets() {
            many = 1;
        }

        void gather(int[] ties, int pulls, int freePulls) {
            free = freePulls;
            many = 1;
            turned[0] = 0;
            for (int pull = 0; pull < pulls && pull < MOST_PULLS; pull++) {
                for (int set = 0; set < 1 << pull; set++) {
                    turned[set | 1 << pull] = turned[set] ^ ties[pull];
                }
                many = 2 << pull;
            }
        }

        int turnedBy(int set) {
            return set < 0 || set >= many ? 0 : turned[set];
        }

        private boolean isWay(int set, int lamps) {
            return (set & ~free) == 0 && turned[set] == lamps;
        }

        int howMany(int lamps) {
            int ways = 0;
            for (int set = 0; set < many; set++) {
                if (isWay(set, lamps)) {
                    ways++;
                }
            }
            return ways;
        }

        int ofFewest(int lamps) {
            int best = NOT_SO;
            for (int set = 0; set < many; set++) {
                if (isWay(set, lamps) && (best < 0 || Integer.bitCount(set) < Integer.bitCount(best))) {
                    best = set;
                }
            }
            return best;
        }

        int ofFewestSilent() {
            int best = 0;
            for (int set = 1; set < many; set++) {
                if (isWay(set, 0) && (best == 0 || Integer.bitCount(set) < Integer.bitCount(best))) {
                    best = set;
                }
            }
            return best;
        }

        int ofLeastCost(int lamps, Told told) {
            int best = NOT_SO;
            int least = 0;
            for (int set = 0; set < many; set++) {
                if (isWay(set, lamps)) {
                    int cost = told.costOf(set);
                    if (best < 0 || cost < least) {
                        best = set;
                        least = cost;
                    }
                }
            }
            return best;
        }

        int inAll(int lamps) {
            int common = free;
            for (int set = 0; set < many; set++) {
                if (isWay(set, lamps)) {
                    common &= set;
                }
            }
            return common;
        }

        int inNone(int lamps) {
            int left = free;
            for (int set = 0; set < many; set++) {
                if (isWay(set, lamps)) {
                    left &= ~set;
                }
            }
            return left;
        }

        int ofDarkest(int on) {
            int best = 0;
            for (int set = 1; set < many; set++) {
                if ((set & ~free) == 0 && darkness(set, on) < darkness(best, on)) {
                    best = set;
                }
            }
            return best;
        }

        /** Fewest ON come first, then fewest pulls; a set has fewer than sixteen of these. */
        private int darkness(int set, int on) {
            return Integer.bitCount(on ^ turned[set]) * 16 + Integer.bitCount(set);
        }

        /** The sets of a basis lead each to an evening of its own, so none counts twice. */
        int eveningsOf(int on, int lamps, int basis) {
            int found = 0;
            for (int set = 0; set < many; set++) {
                if ((set & ~basis) == 0 && Integer.bitCount(on ^ turned[set]) == lamps) {
                    found++;
                }
            }
            return found;
        }

        /** How the game ends for who begins, if not all is OFF. */
        int play(int on) {
            for (int set = many - 1; set >= 0; set--) {
                if ((set & ~free) == 0) {
                    outcomes[set] = bestFrom(set, on);
                }
            }
            return outcomes[0];
        }

        private int bestFrom(int set, int on) {
            int best = NONE;
            for (int pull = 0; pull < MOST_PULLS; pull++) {
                int bit = 1 << pull;
                if ((free & ~set & bit) != 0) {
                    best = Math.max(best, outcomeBy(set | bit, on));
                }
            }
            return best == NONE ? NOBODY : best;
        }

        /** What comes, for who rings last, of the pulls rung so far. */
        private int outcomeBy(int set, int on) {
            if (set >= many) {
                return NOBODY;
            }
            return turned[set] == on ? WON : WON - outcomes[set];
        }

        int firstPullTo(int outcome, int on) {
            for (int pull = 0; pull < MOST_PULLS; pull++) {
                int bit = 1 << pull;
                if ((free & bit) != 0 && outcomeBy(bit, on) == outcome) {
                    return pull;
                }
            }
            return NOT_SO;
        }
    }

    /** Which pulls are no sums of others, and of which ones the others are sums. */
    private static final class Basis {
        /** By its highest lamp: what some pulls of the basis turn over, and which pulls. */
        private final int[] rows = new int[MOST_LAMPS];
        private final int[] parts = new int[MOST_LAMPS];
        private int rest;
        private int used;

        /** The basis of the free ones among the first so many pulls. */
        int settle(int[] ties, int pulls, int free) {
            for (int lamp = 0; lamp < MOST_LAMPS; lamp++) {
                rows[lamp] = 0;
                parts[lamp] = 0;
            }
            int basis = 0;
            for (int pull = 0; pull < pulls && pull < MOST_PULLS; pull++) {
                if (((free >> pull) & 1) != 0) {
                    reduce(ties[pull]);
                    int highest = 31 - Integer.numberOfLeadingZeros(rest);
                    if (highest >= 0 && highest < MOST_LAMPS) {
                        rows[highest] = rest;
                        parts[highest] = used | 1 << pull;
                        basis |= 1 << pull;
                    }
                }
            }
            return basis;
        }

        int partsOf(int lamps) {
            reduce(lamps);
            return rest == 0 ? used : NOT_SO;
        }

        private void reduce(int lamps) {
            rest = lamps;
            used = 0;
            for (int lamp = MOST_LAMPS - 1; lamp >= 0; lamp--) {
                if (((rest >> lamp) & 1) != 0) {
                    rest ^= rows[lamp];
                    used ^= parts[lamp];
                }
            }
        }
    }

    /** The TAPE, and the reading of a TEXT from it, token by token, up to its first FAULT. */
    private static final class Reader {
        int fault;
        int faultPlace;
        int fed;
        private final byte[] tape = new byte[MOST_BYTES];
        private int length;
        private int place;
        /** The token at hand: its kind, where it begins, its number or its letters. */
        private int kind;
        private int start;
        private int value;
        /** What is being read: what was told before stays until all is read. */
        private Told into = new Told();
        private int seenKnots;
        /** What waits for its right side, with what is open. */
        private final int[] waiting = new int[MOST_KNOTS + MOST_OPEN];
        private int waits;
        private int open;
        /** By how much is open, as bits: whether a comparison stands there already. */
        private int compared;
        private boolean wantsValue;
        private boolean takesNot;

        Reader() {
            faultPlace = NONE;
        }

        void take(int four) {
            for (int shift = 24; shift >= 0 && fed >= 0 && fed < MOST_BYTES; shift -= 8) {
                tape[fed] = (byte) (four >> shift);
                fed++;
            }
        }

        /** What was read last, for something to read the next one into. */
        Told giveFor(Told old) {
            Told read = into;
            into = old;
            return read;
        }

        /** The first bytes are to be read; the TAPE is empty then. */
        void begin(int n) {
            length = Math.min(n, MOST_BYTES);
            fed = 0;
            place = 0;
            into.empty();
            seenKnots = 0;
            fault = 0;
            faultPlace = NONE;
        }

        boolean hasMore() {
            next();
            return kind != END;
        }

        private boolean refuse(int which) {
            fault = which;
            faultPlace = start;
            return false;
        }

        private int at(int index) {
            return index >= 0 && index < length && index < MOST_BYTES ? tape[index] & 255 : 0;
        }

        private static boolean isLetter(int sign) {
            return sign >= 'a' && sign <= 'z';
        }

        private static boolean isDigit(int sign) {
            return sign >= '0' && sign <= '9';
        }

        private void next() {
            while (place < length && (at(place) == 10 || at(place) == 32)) {
                place++;
            }
            start = place;
            value = 0;
            if (place >= length) {
                kind = END;
            } else if (isLetter(at(place))) {
                nextWord();
            } else if (isDigit(at(place))) {
                nextNumber();
            } else {
                nextSign();
            }
        }

        private void nextWord() {
            int letters = 0;
            while (place < length && isLetter(at(place))) {
                if (letters < LETTERS) {
                    value |= (at(place) - 'a' + 1) << LETTER_BITS * (LETTERS - 1 - letters);
                }
                letters++;
                place++;
            }
            kind = letters > LETTERS ? WRONG : kindOfWord();
        }

        private int kindOfWord() {
            for (int from = 0; from + LETTERS <= WORDS.length(); from += LETTERS) {
                int word = 0;
                for (int i = from; i < from + LETTERS; i++) {
                    int sign = WORDS.charAt(i);
                    word = word << LETTER_BITS | (sign == ' ' ? 0 : sign - 'a' + 1);
                }
                if (word == value) {
                    return LAMP + from / LETTERS;
                }
            }
            return NAME;
        }

        private void nextNumber() {
            while (place < length && isDigit(at(place))) {
                value = Math.min(NUMBER_BEYOND_ALL, value * 10 + at(place) - '0');
                place++;
            }
            kind = NUMBER;
        }

        private void nextSign() {
            int sign = at(place);
            int behind = at(place + 1);
            int which = SIGNS.indexOf((char) sign);
            place++;
            kind = which < 0 ? WRONG : PLUS + which;
            if (kind == LESS && behind == '=') {
                kind = LESS_EQUAL;
            } else if (kind == LESS && behind == '>') {
                kind = UNEQUAL;
            } else if (kind == MORE && behind == '=') {
                kind = MORE_EQUAL;
            } else {
                return;
            }
            place++;
        }

        /** The next token must be of this kind. */
        private boolean wants(int which) {
            next();
            return kind == which || refuse(FAULT_TOKEN);
        }

        private boolean wantsNumber(int most) {
            next();
            if (kind != NUMBER) {
                return refuse(FAULT_TOKEN);
            }
            return value <= most || refuse(FAULT_TOO_MUCH);
        }

        /** A LINE with its end, from the word at hand on. */
        boolean readLine() {
            boolean right;
            switch (kind) {
                case LAMP:
                    right = readLamp();
                    break;
                case PULL:
                    right = readPull() && readTies(into.pulls - 1);
                    break;
                case LIT:
                    right = readLit();
                    break;
                case RING:
                    right = readRing();
                    break;
                case MEND:
                    right = readMend();
                    break;
                case BURN:
                    right = readBurn();
                    break;
                case SEED:
                    right = readSeed();
                    break;
                case LAW:
                    right = readLaw();
                    break;
                default:
                    right = refuse(FAULT_TOKEN);
            }
            return right && wants(SEMICOLON);
        }

        private boolean readLamp() {
            int lamp = into.lamps;
            if (lamp >= MOST_LAMPS) {
                return refuse(FAULT_TOO_MUCH);
            }
            if (!wants(NAME)) {
                return false;
            }
            if (into.lampCalled(value) != NONE) {
                return refuse(FAULT_TOLD_ALREADY);
            }
            into.lampNames[lamp] = value;
            into.lamps++;
            return true;
        }

        private boolean readPull() {
            int pull = into.pulls;
            if (pull >= MOST_PULLS) {
                return refuse(FAULT_TOO_MUCH);
            }
            if (!wants(NAME)) {
                return false;
            }
            if (into.pullCalled(value) != NONE) {
                return refuse(FAULT_TOLD_ALREADY);
            }
            into.pullNames[pull] = value;
            if (!wantsNumber(MOST_COST)) {
                return false;
            }
            into.costs[pull] = value;
            into.ties[pull] = 0;
            into.pulls++;
            return true;
        }

        private boolean readTies(int pull) {
            if (pull < 0 || pull >= MOST_PULLS) {
                return refuse(FAULT_TOO_MUCH);
            }
            // One more than the lamps, for what stands behind the last of them.
            for (int i = 0; i <= MOST_LAMPS; i++) {
                int ahead = place;
                next();
                if (kind != NAME) {
                    // It is the end of the LINE that must stand here: it is read again as that.
                    place = ahead;
                    return true;
                }
                int lamp = into.lampCalled(value);
                if (lamp == NONE) {
                    return refuse(FAULT_NOT_TOLD);
                }
                if (((into.ties[pull] >> lamp) & 1) != 0) {
                    return refuse(FAULT_TOLD_ALREADY);
                }
                into.ties[pull] |= 1 << lamp;
            }
            return false;
        }

        private boolean readLit() {
            if (!wants(NAME)) {
                return false;
            }
            int lamp = into.lampCalled(value);
            if (lamp == NONE) {
                return refuse(FAULT_NOT_TOLD);
            }
            if (((into.lit >> lamp) & 1) != 0) {
                return refuse(FAULT_TOLD_ALREADY);
            }
            into.lit |= 1 << lamp;
            return true;
        }

        private boolean readRing() {
            int ring = into.rings;
            if (ring >= MOST_RINGS) {
                return refuse(FAULT_TOO_MUCH);
            }
            if (!wants(NAME)) {
                return false;
            }
            int pull = into.pullCalled(value);
            if (pull == NONE) {
                return refuse(FAULT_NOT_TOLD);
            }
            if (!wantsNumber(MOST_MINUTE_TOLD)) {
                return false;
            }
            into.ringPulls[ring] = pull;
            into.ringMinutes[ring] = value;
            into.rings++;
            return true;
        }

        private boolean readMend() {
            int mending = into.mendings;
            if (mending >= MOST_MENDINGS) {
                return refuse(FAULT_TOO_MUCH);
            }
            if (!wantsNumber(MOST_MINUTE_TOLD)) {
                return false;
            }
            into.mendMinutes[mending] = value;
            into.mendings++;
            return true;
        }

        private boolean readBurn() {
            if (into.burn != NONE) {
                return refuse(FAULT_TOLD_ALREADY);
            }
            if (!wantsNumber(HUNDRED)) {
                return false;
            }
            into.burn = value;
            return true;
        }

        private boolean readSeed() {
            if (into.seed != NONE) {
                return refuse(FAULT_TOLD_ALREADY);
            }
            if (!wantsNumber(MOST_SEED_TOLD)) {
                return false;
            }
            into.seed = value;
            return true;
        }

        private boolean readLaw() {
            next();
            if (kind < TOLL || kind > FATE) {
                return refuse(FAULT_TOKEN);
            }
            int law = kind - TOLL;
            if (into.hasLaw(law)) {
                return refuse(FAULT_TOLD_ALREADY);
            }
            into.lawFrom[law] = into.knots;
            if (!readWorth()) {
                return false;
            }
            into.lawTo[law] = into.knots;
            return true;
        }

        /** An E, up to what can't belong to it. */
        private boolean readWorth() {
            waits = 0;
            open = 0;
            compared = 0;
            wantsValue = true;
            takesNot = true;
            // Every token takes a byte at least.
            for (int i = 0; i <= length; i++) {
                int ahead = place;
                next();
                if (!wantsValue && open == 0 && kind == SEMICOLON) {
                    place = ahead;
                    settle(0);
                    return true;
                }
                if (!(wantsValue ? takeValue() : takeSign())) {
                    return false;
                }
            }
            return false;
        }

        /** What may stand where a value is due. */
        private boolean takeValue() {
            if (kind == OPEN) {
                return openOne();
            }
            if (kind == NOT && takesNot) {
                return takeKnot() && putOff(NOT);
            }
            if (kind == NUMBER) {
                wantsValue = false;
                return value > MOST_NUMBER_OF_LAW ? refuse(FAULT_TOO_MUCH) : takeKnot() && addStep(value);
            }
            if (kind >= COST && kind <= MINUTE) {
                wantsValue = false;
                return takeKnot() && addStep(STEP_OF_KIND + kind);
            }
            return refuse(FAULT_TOKEN);
        }

        /** What may stand behind a value. */
        private boolean takeSign() {
            if (kind == CLOSE && open > 0) {
                settle(0);
                waits--;
                open--;
                return true;
            }
            int binding = bindingOf(kind);
            boolean compares = binding == 4;
            if (binding == 0 || kind == NOT || compares && ((compared >> open) & 1) != 0) {
                return refuse(FAULT_TOKEN);
            }
            if (!takeKnot()) {
                return false;
            }
            settle(binding);
            takesNot = kind == AND || kind == OR;
            if (takesNot) {
                compared &= ~(1 << open);
            } else if (compares) {
                compared |= 1 << open;
            }
            wantsValue = true;
            return putOff(kind);
        }

        private boolean openOne() {
            if (open >= MOST_OPEN) {
                return refuse(FAULT_TOO_MUCH);
            }
            open++;
            compared &= ~(1 << open);
            takesNot = true;
            return putOff(OPEN);
        }

        private boolean takeKnot() {
            if (seenKnots >= MOST_KNOTS) {
                return refuse(FAULT_TOO_MUCH);
            }
            seenKnots++;
            return true;
        }

        private boolean putOff(int which) {
            if (waits < 0 || waits >= waiting.length) {
                return refuse(FAULT_TOO_MUCH);
            }
            waiting[waits] = which;
            waits++;
            return true;
        }

        private boolean addStep(int step) {
            if (into.knots < 0 || into.knots >= MOST_KNOTS) {
                return refuse(FAULT_TOO_MUCH);
            }
            into.steps[into.knots] = step;
            into.knots++;
            return true;
        }

        /** What waits, since the last one open, and binds no looser than this, has its right side now. */
        private void settle(int binding) {
            while (waits > 0 && waiting[waits - 1] != OPEN && bindingOf(waiting[waits - 1]) >= binding) {
                waits--;
                addStep(STEP_OF_KIND + waiting[waits]);
            }
        }

        /** How close a sign binds; 0: it is none of an E. */
        private static int bindingOf(int sign) {
            switch (sign) {
                case OR:
                    return 1;
                case AND:
                    return 2;
                case NOT:
                    return 3;
                case LESS:
                case LESS_EQUAL:
                case EQUAL:
                case UNEQUAL:
                case MORE_EQUAL:
                case MORE:
                    return 4;
                case PLUS:
                case MINUS:
                    return 5;
                case TIMES:
                case DIVIDE:
                    return 6;
                default:
                    return 0;
            }
        }
    }
}
