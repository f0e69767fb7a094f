import java.util.Arrays;

/**
 * An island on which no weather has happened till two who are not related have said the same of it
 * before the clerk. Every row is made with the object and used again, so that no call makes anything.
 */
public final class TwoAgree {
    public static final int BAD = -1, NOT = -2, FULL = -3, STATE = -5, VOID = -2000000000;

    private static final int MISSING = -11, OTHER_KIND = -12, NO_PLACE = -13, SIZE_BELOW_0 = -14;
    private static final int WEATHERS = 6, CITIZENS = 10, KINS = 8, EYES = 13, LAST_DAY = 99;
    private static final int SHELVES = 6, BYTES = 0, MOST_IN_ROW = 40, MOST_TWOS = 8;
    private static final int NOBODY = 10, MOST_TURNS = 4, MOST_YEARS = 30, MOST_YEAR_DAYS = 40;

    private final Island island = new Island();
    private final Crowd crowd = new Crowd();
    private final Bribes bribes = new Bribes();
    private final Parser parser = new Parser();
    private final Changes changes = new Changes();
    private final Ledger ledger = new Ledger();
    private final Picture picture = new Picture();
    private final Words words = new Words();
    private final Shelf[] shelves = new Shelf[SHELVES];

    public TwoAgree() {
        for (int i = 0; i < shelves.length; i++) {
            shelves[i] = new Shelf();
        }
    }

    // ---- citizens

    public int citizen(int kin) {
        if (!within(kin, KINS)) {
            return BAD;
        }
        return island.welcome(kin, Island.FIRST_EYE, Island.FIRST_PRICE);
    }

    public int citizens(int shelf, int i, int n) {
        if (!within(shelf, SHELVES) || n < 1 || n > CITIZENS) {
            return BAD;
        }
        Shelf row = shelves[shelf];
        if (row.holds == Shelf.NOTHING) {
            return 0;
        }
        if (!row.isOfBytes()) {
            return OTHER_KIND;
        }
        int came = 0;
        // The place is looked at before it goes on by three: it cannot wrap, for a row is short.
        for (int at = i; came < n && row.has(at, 3) && island.welcomeThree(row, at) >= 0; at += 3) {
            came++;
        }
        return came;
    }

    public int mend(int number, int what, int v) {
        if (!island.knows(number, what) || !Island.takes(what, v)) {
            return VOID;
        }
        int was = island.read(number, what);
        if (was != v) {
            changes.add(number, what, was, v);
            island.write(number, what, v);
        }
        return was;
    }

    public int of(int number, int what) {
        return island.knows(number, what) ? island.read(number, what) : VOID;
    }

    public int feed(int letter) {
        if (!within(letter, 256)) {
            return BAD;
        }
        return parser.hear(letter);
    }

    public int law() {
        int fault = parser.readInto(island.law);
        return fault < 0 ? 1 : -100 - fault;
    }

    public int says(int citizen) {
        return within(citizen, island.size) ? island.speechNow(citizen) : BAD;
    }

    // ---- agreeing

    public int all(int what) {
        if (!within(what, 2)) {
            return BAD;
        }
        crowd.gatherNow(island);
        return what == 0 ? crowd.happened(NOBODY) : crowd.agreeing();
    }

    public int saying(int weather) {
        if (!within(weather, WEATHERS)) {
            return BAD;
        }
        crowd.gatherNow(island);
        return crowd.speakers(weather, weather);
    }

    public int claims(int shelf, int n, int what) {
        if (!within(shelf, SHELVES) || n < 0 || n > MOST_IN_ROW || !within(what, 3)) {
            return BAD;
        }
        Shelf row = shelves[shelf];
        if (!row.isOfBytes()) {
            return row.refusal();
        }
        crowd.gatherNow(island);
        int here = 0;
        int bits = 0;
        int first = NOT;
        for (int i = 0; i < n && within(row.small(i), island.size); i++) {
            int met = crowd.metBy(row.small(i), here);
            if (met != 0 && first == NOT) {
                first = i;
            }
            bits |= met;
            here |= 1 << row.small(i);
        }
        return what == 0 ? bits : what == 1 ? first : Integer.bitCount(here);
    }

    public int happens(int shelf, int weather) {
        if (!within(shelf, SHELVES) || !within(weather, WEATHERS)) {
            return BAD;
        }
        Shelf row = shelves[shelf];
        if (!row.isOfBytes()) {
            return row.refusal();
        }
        crowd.gatherNow(island);
        int here = 0;
        for (int i = 0; i < MOST_IN_ROW && within(row.small(i), island.size); i++) {
            if (has(crowd.metBy(row.small(i), here), weather)) {
                return i + 1;
            }
            here |= 1 << row.small(i);
        }
        return NOT;
    }

    public int pay(int weather, int what) {
        if (!within(weather, WEATHERS) || !within(what, 2)) {
            return BAD;
        }
        bribes.begin(island);
        if (!bribes.findPair(weather)) {
            return NOT;
        }
        return what == 0 ? bribes.least : bribes.firstPair;
    }

    public int payBoth(int ww, int what) {
        if (!areTwo(ww, WEATHERS) || ww / 10 == ww % 10 || !within(what, 3)) {
            return BAD;
        }
        bribes.begin(island);
        if (!bribes.findTwoPairs(ww / 10, ww % 10)) {
            return NOT;
        }
        return what == 0 ? bribes.least : what == 1 ? bribes.firstPair : bribes.otherPair;
    }

    public int pairs(int what) {
        if (!within(what, 3)) {
            return BAD;
        }
        crowd.gatherNow(island);
        return what == 0 ? crowd.mostCouples() : what == 1 ? crowd.marriagesToDrought() : crowd.alone();
    }

    public int strangers(int weather) {
        if (!within(weather, WEATHERS)) {
            return BAD;
        }
        crowd.gatherNow(island);
        if (crowd.happensOn(weather)) {
            return 0;
        }
        return crowd.speakers(weather, weather + island.wide) > 0 ? 1 : 2;
    }

    // ---- what was said, days

    public long likely(int shelf, int weather, int part) {
        if (!within(shelf, SHELVES) || !within(weather, WEATHERS) || !within(part, 2)) {
            return Long.MIN_VALUE;
        }
        Shelf row = shelves[shelf];
        if (!row.isOfBytes()) {
            return Long.MIN_VALUE;
        }
        long mine = weight(row, weather);
        long together = 0;
        for (int w = 0; w < WEATHERS; w++) {
            together += weight(row, w);
        }
        long divisor = commonDivisor(together, mine);
        if (divisor == 0) {
            return part;
        }
        return (part == 0 ? mine : together) / divisor;
    }

    public int liars(int shelf, int what) {
        if (!within(shelf, SHELVES) || !within(what, 2)) {
            return BAD;
        }
        Shelf row = shelves[shelf];
        if (!row.isOfBytes()) {
            return row.refusal();
        }
        int least = MOST_TWOS + 1;
        int by = 0;
        for (int w = 0; w < WEATHERS; w++) {
            int otherwise = sayingOtherwise(row, w);
            if (otherwise < least) {
                least = otherwise;
                by = w;
            }
        }
        return what == 0 ? least : by;
    }

    public int days(int shelf, int what) {
        if (!within(shelf, SHELVES) || !within(what, 3)) {
            return BAD;
        }
        Shelf row = shelves[shelf];
        if (!row.isOfBytes()) {
            return row.refusal();
        }
        int some = 0;
        int just = 0;
        int dry = 0;
        int driest = 0;
        int size = daysOn(row);
        for (int i = 0; i < size; i++) {
            crowd.gather(island, row.small(i), dayBehind(i));
            int bits = crowd.happened(NOBODY);
            some += bits != 0 ? 1 : 0;
            just += bits == 1 << row.small(i) ? 1 : 0;
            dry = bits == 0 ? dry + 1 : 0;
            driest = Math.max(driest, dry);
        }
        return what == 0 ? some : what == 1 ? just : driest;
    }

    public int judge(int ss) {
        if (!areTwo(ss, SHELVES)) {
            return BAD;
        }
        if (!areOfBytes(ss)) {
            return refusalOfTwo(ss);
        }
        Shelf fallen = shelves[ss / 10];
        Shelf told = shelves[ss % 10];
        int size = daysOn(fallen);
        for (int i = 0; i < told.size; i++) {
            if (i >= size) {
                return i;
            }
            crowd.gather(island, fallen.small(i), dayBehind(i));
            if (crowd.happened(NOBODY) != told.small(i)) {
                return i;
            }
        }
        return NOT;
    }

    public int fits(int ss, int citizen, int what) {
        if (!areTwo(ss, SHELVES) || !within(citizen, island.size) || !within(what, 3)) {
            return BAD;
        }
        if (!areOfBytes(ss)) {
            return refusalOfTwo(ss);
        }
        int fitting = fitting(shelves[ss / 10], shelves[ss % 10], citizen, what == 2);
        if (what == 1) {
            return fitting == 0 ? NOT : lowestOf(fitting);
        }
        return what == 0 ? Integer.bitCount(fitting) : fitting;
    }

    public int byTurns(int weather, int n, int what) {
        if (!within(weather, WEATHERS) || n < 1 || n > MOST_TURNS || !within(what, 2)) {
            return VOID;
        }
        bribes.begin(island);
        int best = bribes.play(weather, n);
        return what == 0 ? best : bribes.firstBought;
    }

    public int drawn(int seed, int nm, int weather) {
        int years = nm / 100;
        int yearDays = nm % 100;
        if (years < 1 || years > MOST_YEARS || yearDays < 1 || yearDays > MOST_YEAR_DAYS
                || !within(weather, WEATHERS + 1)) {
            return BAD;
        }
        crowd.forget();
        int z = seed;
        int found = 0;
        for (int i = 0; i < years * yearDays; i++) {
            z = z * 1103515245 + 12345;
            // Each year begins now; z alone goes on over all of them.
            crowd.gatherAgain(island, (z >>> 8) % WEATHERS, dayBehind(i % yearDays));
            int bits = island.size == 0 ? 0 : crowd.happened((z >>> 16) % island.size);
            if (weather == WEATHERS ? bits == 0 : has(bits, weather)) {
                found++;
            }
        }
        return found;
    }

    // ---- in deed

    public int claim(int citizen) {
        if (!within(citizen, island.size)) {
            return BAD;
        }
        if (has(ledger.here, citizen)) {
            return STATE;
        }
        crowd.gatherNow(island);
        return ledger.enter(citizen, crowd.metBy(citizen, ledger.here));
    }

    public int ends() {
        island.day = dayBehind(1);
        ledger.endDay();
        return island.day;
    }

    public int marry(int kk) {
        if (!areTwo(kk, KINS) || kk / 10 == kk % 10) {
            return BAD;
        }
        ledger.add(Ledger.MARRIAGES, 1);
        return island.join(Math.min(kk / 10, kk % 10), Math.max(kk / 10, kk % 10));
    }

    public int paid(int citizen, int weather) {
        if (!within(citizen, island.size) || !within(weather, WEATHERS + 1)) {
            return BAD;
        }
        if (weather == WEATHERS) {
            island.bought[citizen] = -1;
            return 0;
        }
        island.bought[citizen] = weather;
        ledger.add(Ledger.PAID, island.price[citizen]);
        return island.price[citizen];
    }

    public int led(int what) {
        return within(what, Ledger.SORTS) ? ledger.led[what] : BAD;
    }

    public int image() {
        picture.take(island, ledger);
        return ledger.led[Ledger.DAYS];
    }

    public int back() {
        if (!picture.isThere) {
            return STATE;
        }
        picture.layBack(island, ledger);
        return ledger.led[Ledger.DAYS];
    }

    public int undo() {
        if (changes.done == 0) {
            return STATE;
        }
        changes.stepBack(island);
        return changes.done;
    }

    public int redo() {
        if (changes.done == changes.known) {
            return STATE;
        }
        changes.stepOn(island);
        return changes.known - changes.done;
    }

    // ---- acts, shelves

    public int body(int kind) {
        return within(kind, Words.KINDS) ? words.make(kind) : BAD;
    }

    public int act(int body, int act, int x) {
        return words.start(body, act, x);
    }

    public int trace(int i) {
        return within(i, Math.min(words.ran, Words.TRACED)) ? words.traced[i] : BAD;
    }

    public int keep(int shelf, int body) {
        if (!within(shelf, SHELVES) || body != -1 && !within(body, words.size)) {
            return BAD;
        }
        shelves[shelf].holdWord(body);
        return 1;
    }

    public int row(int shelf, int sort, int n) {
        if (!within(shelf, SHELVES) || !within(sort, Shelf.SORTS) || n > Shelf.MOST) {
            return BAD;
        }
        if (n < 0) {
            return SIZE_BELOW_0;
        }
        shelves[shelf].holdRow(sort, n);
        return 1;
    }

    public int put(int shelf, int i, long v) {
        if (!within(shelf, SHELVES)) {
            return BAD;
        }
        Shelf row = shelves[shelf];
        if (row.holds != Shelf.ROW) {
            return row.refusal();
        }
        if (!row.has(i, 1)) {
            return NO_PLACE;
        }
        row.cells[i] = row.kept(v);
        return 1;
    }

    public long element(int shelf, int i) {
        if (!within(shelf, SHELVES) || shelves[shelf].holds != Shelf.ROW || !shelves[shelf].has(i, 1)) {
            return Long.MIN_VALUE;
        }
        return shelves[shelf].cells[i];
    }

    public int shift(int shelf, int i, int other, int j, int n) {
        if (!within(shelf, SHELVES) || !within(other, SHELVES)) {
            return BAD;
        }
        Shelf from = shelves[shelf];
        Shelf to = shelves[other];
        if (from.holds == Shelf.NOTHING || to.holds == Shelf.NOTHING) {
            return MISSING;
        }
        if (from.holds != Shelf.ROW || to.holds != Shelf.ROW || from.sort != to.sort) {
            return OTHER_KIND;
        }
        if (!from.has(i, n) || !to.has(j, n)) {
            return NO_PLACE;
        }
        System.arraycopy(from.cells, i, to.cells, j, n);
        return n;
    }

    public int taken(int shelf, int k) {
        if (!within(shelf, SHELVES) || !within(k, Words.KINDS)) {
            return BAD;
        }
        Shelf held = shelves[shelf];
        if (held.holds != Shelf.WORD || !words.isUnder(held.word, k)) {
            return held.refusal();
        }
        return words.kinds[held.word];
    }

    public int count(int what) {
        switch (what) {
            case 0: return island.size;
            case 1: return Integer.bitCount(ledger.here);
            case 2: return parser.length;
            case 3: return changes.done;
            case 4: return words.size;
            case 5: return words.ran;
            default: return BAD;
        }
    }

    // ---- what several calls use

    private static boolean within(int v, int size) {
        return v >= 0 && v < size;
    }

    private static boolean has(int bits, int i) {
        return (bits >>> i & 1) != 0;
    }

    private static int lowestOf(int bits) {
        int i = 0;
        while (i < 32 && !has(bits, i)) {
            i++;
        }
        return i;
    }

    /** Whether a number is 10 times one below size and another one below size. */
    private static boolean areTwo(int pair, int size) {
        return pair >= 0 && pair / 10 < size && pair % 10 < size;
    }

    private boolean areOfBytes(int ss) {
        return areTwo(ss, SHELVES) && shelves[ss / 10].isOfBytes() && shelves[ss % 10].isOfBytes();
    }

    /** What is said if not both shelves hold rows of bytes: the first one's fault first. */
    private int refusalOfTwo(int ss) {
        if (!areTwo(ss, SHELVES)) {
            return BAD;
        }
        return shelves[ss / 10].isOfBytes() ? shelves[ss % 10].refusal() : shelves[ss / 10].refusal();
    }

    /** DAY so many days on. */
    private int dayBehind(int days) {
        return Math.min(LAST_DAY, island.day + days);
    }

    private static int daysOn(Shelf row) {
        int size = 0;
        while (size < MOST_IN_ROW && within(row.small(size), WEATHERS)) {
            size++;
        }
        return size;
    }

    private boolean isTwo(Shelf row, int two) {
        return within(row.small(2 * two), island.size) && within(row.small(2 * two + 1), WEATHERS);
    }

    /** How likely all is said if a weather fell: each part sixty times as large, so that it is whole. */
    private long weight(Shelf row, int weather) {
        long product = 1;
        for (int two = 0; two < MOST_TWOS && isTwo(row, two); two++) {
            int eye = island.eye[row.small(2 * two)];
            product *= row.small(2 * two + 1) == weather ? 5 * eye : 12 - eye;
        }
        return product;
    }

    private int sayingOtherwise(Shelf row, int weather) {
        int otherwise = 0;
        for (int two = 0; two < MOST_TWOS && isTwo(row, two); two++) {
            otherwise += row.small(2 * two + 1) != weather ? 1 : 0;
        }
        return otherwise;
    }

    private static long commonDivisor(long one, long other) {
        long greater = one;
        long lesser = other;
        for (int step = 0; step < 200 && lesser != 0; step++) {
            long rest = greater % lesser;
            greater = lesser;
            lesser = rest;
        }
        return greater;
    }

    /** By which KINS, or EYES, of one all that is told is so: bits. */
    private int fitting(Shelf fallen, Shelf told, int citizen, boolean byKin) {
        int tried = byKin ? KINS : EYES;
        int fitting = (1 << tried) - 1;
        int size = daysOn(fallen);
        for (int i = 0; i < told.size && fitting != 0; i++) {
            if (i >= size) {
                return 0;
            }
            int day = dayBehind(i);
            // The others say the same whichever one is tried, so each day is gathered once.
            crowd.gather(island, fallen.small(i), day);
            for (int v = 0; v < tried; v++) {
                int kin = byKin ? v : island.kin[citizen];
                int eye = byKin ? island.eye[citizen] : v;
                crowd.kin[citizen] = kin;
                crowd.said[citizen] = island.speechAs(citizen, kin, eye, fallen.small(i), day);
                if (crowd.happened(NOBODY) != told.small(i)) {
                    fitting &= ~(1 << v);
                }
            }
        }
        return fitting;
    }

    // ---- classes inside

    /** The citizens, what falls, and the law by which they say. */
    private static final class Island {
        static final int FIRST_EYE = 9, FIRST_PRICE = 10, OF_CITIZENS = 4;
        private static final int[] LEAST = {0, 0, 0, -1, 0, 0, 0};
        private static final int[] MOST = {7, 12, 99, 5, 5, 2, 99};

        final int[] kin = new int[CITIZENS];
        final int[] eye = new int[CITIZENS];
        final int[] price = new int[CITIZENS];
        final int[] bought = new int[CITIZENS];
        final Law law = new Law();
        private final int[] names = new int[Law.NAMES];
        int size, falls, wide, day;

        int welcome(int itsKin, int itsEye, int itsPrice) {
            if (size >= CITIZENS) {
                return FULL;
            }
            kin[size] = itsKin;
            eye[size] = itsEye;
            price[size] = itsPrice;
            bought[size] = -1;
            size++;
            return size - 1;
        }

        /** One by three bytes of a row; below 0 if they tell none, or there is no room. */
        int welcomeThree(Shelf row, int at) {
            for (int i = 0; i < 3; i++) {
                if (!takes(i, row.small(at + i))) {
                    return BAD;
                }
            }
            return welcome(row.small(at), row.small(at + 1), row.small(at + 2));
        }

        boolean knows(int number, int what) {
            if (!within(what, MOST.length)) {
                return false;
            }
            return what < OF_CITIZENS ? within(number, size) : number == 0;
        }

        static boolean takes(int what, int v) {
            return within(what, MOST.length) && v >= LEAST[what] && v <= MOST[what];
        }

        int read(int number, int what) {
            if (!knows(number, what)) {
                return VOID;
            }
            switch (what) {
                case 0: return kin[number];
                case 1: return eye[number];
                case 2: return price[number];
                case 3: return bought[number];
                case 4: return falls;
                case 5: return wide;
                default: return day;
            }
        }

        void write(int number, int what, int v) {
            if (!knows(number, what) || !takes(what, v)) {
                return;
            }
            switch (what) {
                case 0: kin[number] = v; break;
                case 1: eye[number] = v; break;
                case 2: price[number] = v; break;
                case 3: bought[number] = v; break;
                case 4: falls = v; break;
                case 5: wide = v; break;
                default: day = v; break;
            }
        }

        int speechNow(int c) {
            return within(c, size) ? speechAs(c, kin[c], eye[c], falls, day) : 0;
        }

        /** What one would say if a weather falls on a day, were he of such a kin and had such eyes. */
        int speechAs(int c, int itsKin, int itsEye, int weather, int onDay) {
            if (!within(c, size)) {
                return 0;
            }
            if (bought[c] >= 0) {
                return bought[c];
            }
            if (law.length == 0) {
                return itsEye >= 6 ? weather : Math.min(WEATHERS - 1, weather + 1);
            }
            names[0] = weather;
            names[1] = itsEye;
            names[2] = itsKin;
            names[3] = price[c];
            names[4] = onDay;
            names[5] = c;
            return Math.max(0, Math.min(WEATHERS - 1, law.value(names)));
        }

        /** All of the greater kin are of the lesser then: how many that has. */
        int join(int lesser, int greater) {
            int members = 0;
            for (int c = 0; c < size; c++) {
                if (kin[c] == greater) {
                    kin[c] = lesser;
                }
                members += kin[c] == lesser ? 1 : 0;
            }
            return members;
        }
    }

    /** The law in force, as steps on a stack; without steps there is no text. */
    private static final class Law {
        static final int MOST_STEPS = 128, NAMES = 6;
        // A sign between two is its own step, so these stay below every such sign.
        static final int NUMBER = 1, NAME = 2, FLIP = 3, MINUS = 4, WHEN = 5, END = 6;

        final int[] steps = new int[MOST_STEPS];
        final int[] with = new int[MOST_STEPS];
        private final int[] stack = new int[MOST_STEPS];
        private int top;
        int length;
        boolean usesDay;

        int value(int[] names) {
            top = 0;
            // A step only ever leads on: the counter never falls.
            for (int at = 0; at < length && at < MOST_STEPS; at++) {
                int step = steps[at];
                int v = with[at];
                switch (step) {
                    case NUMBER: push(v); break;
                    case NAME: push(within(v, names.length) ? names[v] : 0); break;
                    case FLIP: push(pop() == 0 ? 1 : 0); break;
                    case MINUS: push(-pop()); break;
                    case WHEN: at = pop() == 0 ? Math.max(at, v) : at; break;
                    case END: return pop();
                    default:
                        int right = pop();
                        push(joined(step, pop(), right));
                }
            }
            return 0;
        }

        private void push(int v) {
            if (top < MOST_STEPS) {
                stack[top] = v;
                top++;
            }
        }

        private int pop() {
            if (top <= 0) {
                return 0;
            }
            top--;
            return stack[top];
        }

        private static int joined(int sign, int left, int right) {
            switch (sign) {
                case '|': return left != 0 || right != 0 ? 1 : 0;
                case '&': return left != 0 && right != 0 ? 1 : 0;
                case '<': return left < right ? 1 : 0;
                case '=': return left == right ? 1 : 0;
                case '>': return left > right ? 1 : 0;
                case '+': return left + right;
                case '-': return left - right;
                case '*': return left * right;
                case '/': return right == 0 ? 0 : left / right;
                case '%': return right == 0 ? 0 : left % right;
                default: return 0;
            }
        }
    }

    /** The tape, and the reading of it as a law. */
    private static final class Parser {
        private static final int MOST_BYTES = 120, MOST_OPEN = 6, MOST_DIGITS = 4;
        private static final int COMPARING = 2, OPERANDS = 5, NONE = -1;
        private static final String NAME_LETTERS = "tekpdc";
        private static final int DAY_NAME = 4;

        private final int[] tape = new int[MOST_BYTES];
        private final int[] steps = new int[Law.MOST_STEPS];
        private final int[] with = new int[Law.MOST_STEPS];
        int length;
        private int made, at, fault;
        private boolean usesDay;

        int hear(int letter) {
            if (length >= MOST_BYTES) {
                return FULL;
            }
            tape[length] = letter;
            length++;
            return length;
        }

        /** The tape becomes the law, or its fault is told and the law stays; the tape is empty then. */
        int readInto(Law law) {
            made = 0;
            at = 0;
            fault = NONE;
            usesDay = false;
            readLine();
            for (int lines = 0; lines < MOST_BYTES && meets(';'); lines++) {
                readLine();
            }
            if (at < length) {
                refuse();
            }
            length = 0;
            if (fault == NONE) {
                System.arraycopy(steps, 0, law.steps, 0, made);
                System.arraycopy(with, 0, law.with, 0, made);
                law.length = made;
                law.usesDay = usesDay;
            }
            return fault;
        }

        private void readLine() {
            readRank(0, 0);
            if (meets('?')) {
                int when = made;
                emit(Law.WHEN, 0);
                readRank(0, 0);
                // If the first part is 0, what follows is left out up to the line's end.
                if (within(when, Law.MOST_STEPS)) {
                    with[when] = made;
                }
            }
            emit(Law.END, 0);
        }

        /** What one rank of signs joins: | & then < = > (once) then + - then * / % then operands. */
        private void readRank(int rank, int open) {
            if (rank >= OPERANDS) {
                readOperand(open);
                return;
            }
            readRank(rank + 1, open);
            int most = rank == COMPARING ? 1 : MOST_BYTES;
            for (int i = 0; i < most && fault == NONE && rankOf(next()) == rank; i++) {
                int sign = next();
                at++;
                readRank(rank + 1, open);
                emit(sign, 0);
            }
        }

        private void readOperand(int open) {
            int letter = next();
            int name = letter < 0 ? NONE : NAME_LETTERS.indexOf((char) letter);
            if (fault != NONE) {
                return;
            }
            if (isDigit(letter)) {
                readNumber();
            } else if (name >= 0) {
                at++;
                emit(Law.NAME, name);
                usesDay |= name == DAY_NAME;
            } else if (open < MOST_OPEN && (letter == '!' || letter == '-')) {
                at++;
                readOperand(open + 1);
                emit(letter == '!' ? Law.FLIP : Law.MINUS, 0);
            } else if (open < MOST_OPEN && letter == '(') {
                at++;
                readRank(0, open + 1);
                if (!meets(')')) {
                    refuse();
                }
            } else {
                refuse();
            }
        }

        private void readNumber() {
            int v = 0;
            for (int digits = 0; digits < MOST_DIGITS && isDigit(next()); digits++) {
                v = v * 10 + next() - '0';
                at++;
            }
            emit(Law.NUMBER, v);
        }

        private static int rankOf(int letter) {
            switch (letter) {
                case '|': return 0;
                case '&': return 1;
                case '<': case '=': case '>': return COMPARING;
                case '+': case '-': return 3;
                case '*': case '/': case '%': return 4;
                default: return NONE;
            }
        }

        private static boolean isDigit(int letter) {
            return letter >= '0' && letter <= '9';
        }

        private int next() {
            return at < length && within(at, MOST_BYTES) ? tape[at] : NONE;
        }

        private boolean meets(int letter) {
            if (fault != NONE || next() != letter) {
                return false;
            }
            at++;
            return true;
        }

        private void refuse() {
            if (fault == NONE) {
                fault = at;
            }
        }

        private void emit(int step, int v) {
            if (made < Law.MOST_STEPS) {
                steps[made] = step;
                with[made] = v;
                made++;
            }
        }
    }

    /** Those who come, with what they say: who agrees with whom, and what happens by it. */
    private static final class Crowd {
        private static final int NEVER = -1;

        final int[] said = new int[CITIZENS];
        final int[] kin = new int[CITIZENS];
        int size, wide;
        private final int[] families = new int[WEATHERS];
        private final int[] friends = new int[CITIZENS];
        private final int[] groups = new int[KINS];
        private final int[] saidOnce = new int[WEATHERS * MOST_YEAR_DAYS];

        void gatherNow(Island island) {
            gather(island, island.falls, island.day);
        }

        /** All come on a day on which a weather falls. */
        void gather(Island island, int weather, int day) {
            size = Math.min(island.size, CITIZENS);
            wide = island.wide;
            for (int c = 0; c < size; c++) {
                kin[c] = island.kin[c];
                said[c] = island.speechAs(c, island.kin[c], island.eye[c], weather, day);
            }
        }

        void forget() {
            Arrays.fill(saidOnce, NEVER);
        }

        /** As gather(), but a day like one since forget() is not worked out again: all years have the same days. */
        void gatherAgain(Island island, int weather, int day) {
            int ahead = island.law.usesDay ? day - island.day : 0;
            if (!within(weather, WEATHERS) || !within(ahead, MOST_YEAR_DAYS)) {
                return;
            }
            int place = weather * MOST_YEAR_DAYS + ahead;
            if (saidOnce[place] != NEVER) {
                unpack(saidOnce[place]);
                return;
            }
            gather(island, weather, day);
            saidOnce[place] = packed();
        }

        /** What all say in one number, three bits for each: never below 0. */
        private int packed() {
            int bits = 0;
            for (int c = 0; c < size; c++) {
                bits |= said[c] << 3 * c;
            }
            return bits;
        }

        private void unpack(int bits) {
            for (int c = 0; c < size; c++) {
                said[c] = bits >>> 3 * c & 7;
            }
        }

        boolean agree(int a, int b) {
            return kin[a] != kin[b] && Math.abs(said[a] - said[b]) <= wide;
        }

        /** On which weathers one agrees with those who are here (bits of both). */
        int metBy(int c, int here) {
            int bits = 0;
            for (int other = 0; other < size; other++) {
                if (within(c, size) && has(here, other) && !has(here, c) && agree(c, other)) {
                    bits |= 1 << Math.min(said[c], said[other]);
                }
            }
            return bits;
        }

        /** Which weathers happen if all come but one. */
        int happened(int absent) {
            Arrays.fill(families, 0);
            for (int c = 0; c < size; c++) {
                if (c != absent && within(said[c], WEATHERS)) {
                    families[said[c]] |= 1 << kin[c];
                }
            }
            int bits = 0;
            for (int w = 0; w < WEATHERS; w++) {
                bits |= isSaidByTwo(w) ? 1 << w : 0;
            }
            return bits;
        }

        /** One says it, and within reach above it a second family speaks: then some two agree on it. */
        private boolean isSaidByTwo(int weather) {
            int reached = 0;
            for (int w = weather; w <= weather + wide && w < WEATHERS; w++) {
                reached |= families[w];
            }
            return families[weather] != 0 && Integer.bitCount(reached) >= 2;
        }

        /** As happened() for one weather alone, all coming. */
        boolean happensOn(int weather) {
            int speaking = 0;
            int reached = 0;
            for (int c = 0; c < size; c++) {
                int above = said[c] - weather;
                if (above >= 0 && above <= wide) {
                    reached |= 1 << kin[c];
                    speaking += above == 0 ? 1 : 0;
                }
            }
            return speaking > 0 && Integer.bitCount(reached) >= 2;
        }

        /** How many say one from a weather up to another. */
        int speakers(int from, int to) {
            int speakers = 0;
            for (int c = 0; c < size; c++) {
                speakers += said[c] >= from && said[c] <= to ? 1 : 0;
            }
            return speakers;
        }

        int agreeing() {
            int agreeing = 0;
            for (int a = 0; a < size; a++) {
                for (int b = a + 1; b < size; b++) {
                    agreeing += agree(a, b) ? 1 : 0;
                }
            }
            return agreeing;
        }

        /** On which weathers just one pair agrees. */
        int alone() {
            int once = 0;
            int often = 0;
            for (int a = 0; a < size; a++) {
                for (int b = a + 1; b < size; b++) {
                    if (agree(a, b)) {
                        int bit = 1 << Math.min(said[a], said[b]);
                        often |= once & bit;
                        once |= bit;
                    }
                }
            }
            return once & ~often;
        }

        /** The most pairs that agree, nobody in two. */
        int mostCouples() {
            Arrays.fill(friends, 0);
            Arrays.fill(groups, 0);
            for (int a = 0; a < size; a++) {
                groups[kin[a]] |= 1 << a;
                for (int b = a + 1; b < size; b++) {
                    friends[a] |= agree(a, b) ? 1 << b : 0;
                }
            }
            return mostAmong((1 << size) - 1);
        }

        /** Each step leaves out one at least of those who are free: it goes ten deep at most. */
        private int mostAmong(int free) {
            int bound = boundAmong(free);
            int one = lowestOf(free);
            if (bound <= 0 || one >= CITIZENS) {
                return 0;
            }
            int rest = free & ~(1 << one);
            int most = 0;
            for (int other = one + 1; other < size && most < bound; other++) {
                if (has(friends[one] & rest, other)) {
                    most = Math.max(most, 1 + mostAmong(rest & ~(1 << other)));
                }
            }
            return most < bound ? Math.max(most, mostAmong(rest)) : most;
        }

        /** No more couples than half of them, nor than those outside the largest family: it spares much trying. */
        private int boundAmong(int free) {
            int members = Integer.bitCount(free);
            int largest = 0;
            for (int k = 0; k < KINS; k++) {
                largest = Math.max(largest, Integer.bitCount(free & groups[k]));
            }
            return Math.min(members / 2, members - largest);
        }

        /** Kins whose members agree must become one, however far round: each joining is a marriage. */
        int marriagesToDrought() {
            for (int k = 0; k < KINS; k++) {
                groups[k] = k;
            }
            int marriages = 0;
            for (int a = 0; a < size; a++) {
                for (int b = a + 1; b < size; b++) {
                    if (agree(a, b) && groups[kin[a]] != groups[kin[b]]) {
                        joinGroups(groups[kin[a]], groups[kin[b]]);
                        marriages++;
                    }
                }
            }
            return marriages;
        }

        private void joinGroups(int one, int other) {
            for (int k = 0; k < KINS; k++) {
                if (groups[k] == other) {
                    groups[k] = one;
                }
            }
        }
    }

    /** Whom to pay, and what both parties do best if they buy by turns. */
    private static final class Bribes {
        private static final int TELLING_PAIRS = 100, WORTH = 100, FAR = 1000000;

        private final Crowd crowd = new Crowd();
        private final int[] price = new int[CITIZENS];
        private int onSale, weather, turns;
        int least, firstPair, otherPair, firstBought;

        /** All come as they are now. */
        void begin(Island island) {
            crowd.gatherNow(island);
            onSale = 0;
            for (int c = 0; c < crowd.size; c++) {
                price[c] = island.price[c];
                onSale |= island.bought[c] < 0 ? 1 << c : 0;
            }
        }

        /** Whether two tens tell two of unlike kin, the lesser first. */
        private boolean areMates(int pair) {
            int lesser = pair / 10;
            int greater = pair % 10;
            return pair >= 0 && lesser < greater && greater < crowd.size && crowd.kin[lesser] != crowd.kin[greater];
        }

        private int costOfOne(int c, int wanted) {
            return crowd.said[c] == wanted ? 0 : price[c];
        }

        private int costOfPair(int pair, int wanted) {
            return costOfOne(pair / 10, wanted) + costOfOne(pair % 10, wanted);
        }

        private static boolean areApart(int one, int other) {
            return one / 10 != other / 10 && one / 10 != other % 10
                    && one % 10 != other / 10 && one % 10 != other % 10;
        }

        boolean findPair(int wanted) {
            least = FAR;
            for (int pair = 0; pair < TELLING_PAIRS; pair++) {
                if (areMates(pair) && costOfPair(pair, wanted) < least) {
                    least = costOfPair(pair, wanted);
                    firstPair = pair;
                }
            }
            return least < FAR;
        }

        boolean findTwoPairs(int wanted, int otherWanted) {
            least = FAR;
            for (int pair = 0; pair < TELLING_PAIRS; pair++) {
                if (areMates(pair)) {
                    findOther(pair, costOfPair(pair, wanted), otherWanted);
                }
            }
            return least < FAR;
        }

        private void findOther(int pair, int cost, int otherWanted) {
            for (int other = 0; other < TELLING_PAIRS; other++) {
                if (areMates(other) && areApart(pair, other) && cost + costOfPair(other, otherWanted) < least) {
                    least = cost + costOfPair(other, otherWanted);
                    firstPair = pair;
                    otherPair = other;
                }
            }
        }

        int play(int wanted, int times) {
            weather = wanted;
            turns = times;
            firstBought = NOBODY;
            return bestFrom(0, 0, -FAR, FAR);
        }

        /**
         * What comes of it behind so many turns, if both do their best; what would not be taken
         * (low or less, high or more) is not told apart, so that much need not be gone through.
         */
        private int bestFrom(int turn, int gain, int low, int high) {
            if (turn >= turns) {
                return gain + (crowd.happensOn(weather) ? WORTH : 0);
            }
            int best = bestFrom(turn + 1, gain, low, high);
            for (int c = 0; c < crowd.size; c++) {
                if (!has(onSale, c)) {
                    continue;
                }
                boolean isFirst = turn % 2 == 0;
                if (isFirst ? best >= high : best <= low) {
                    return best;
                }
                int reached = isFirst
                        ? bestBuying(c, turn, gain, Math.max(low, best), high)
                        : bestBuying(c, turn, gain, low, Math.min(high, best));
                if (isFirst ? reached > best : reached < best) {
                    best = reached;
                    firstBought = turn == 0 ? c : firstBought;
                }
            }
            return best;
        }

        private int bestBuying(int c, int turn, int gain, int low, int high) {
            int before = crowd.said[c];
            boolean isFirst = turn % 2 == 0;
            onSale &= ~(1 << c);
            crowd.said[c] = isFirst ? weather : (weather + 1) % WEATHERS;
            int reached = bestFrom(turn + 1, isFirst ? gain - price[c] : gain + price[c], low, high);
            crowd.said[c] = before;
            onSale |= 1 << c;
            return reached;
        }
    }

    /** Who is before the clerk, what has happened today, and what is led. */
    private static final class Ledger {
        static final int SORTS = 5, CLAIMS = 0, HAPPENED = 1, MARRIAGES = 2, PAID = 3, DAYS = 4;

        final int[] led = new int[SORTS];
        int here, today;

        void add(int what, int more) {
            if (within(what, SORTS)) {
                led[what] += more;
            }
        }

        /** One comes, by whom some weathers happen: those that had not today. */
        int enter(int citizen, int met) {
            int fresh = met & ~today;
            here |= 1 << citizen;
            today |= fresh;
            led[CLAIMS]++;
            led[HAPPENED] += Integer.bitCount(fresh);
            return fresh;
        }

        void endDay() {
            here = 0;
            today = 0;
            led[DAYS]++;
        }

        void copyFrom(Ledger other) {
            System.arraycopy(other.led, 0, led, 0, SORTS);
            here = other.here;
            today = other.today;
        }
    }

    /** The image. */
    private static final class Picture {
        private final int[] kin = new int[CITIZENS];
        private final int[] bought = new int[CITIZENS];
        private final Ledger kept = new Ledger();
        private int size, day;
        boolean isThere;

        void take(Island island, Ledger ledger) {
            System.arraycopy(island.kin, 0, kin, 0, CITIZENS);
            System.arraycopy(island.bought, 0, bought, 0, CITIZENS);
            kept.copyFrom(ledger);
            size = island.size;
            day = island.day;
            isThere = true;
        }

        /** Those who came since stay as they are; the ledger that is laid back does not know them. */
        void layBack(Island island, Ledger ledger) {
            System.arraycopy(kin, 0, island.kin, 0, size);
            System.arraycopy(bought, 0, island.bought, 0, size);
            ledger.copyFrom(kept);
            island.day = day;
        }
    }

    /** What mend() told, so that it can be undone and done again. */
    private static final class Changes {
        private static final int MOST = 40;

        private final int[] numbers = new int[MOST];
        private final int[] whats = new int[MOST];
        private final int[] olds = new int[MOST];
        private final int[] news = new int[MOST];
        int done, known;

        void add(int number, int what, int was, int is) {
            if (done >= MOST) {
                dropOldest();
            }
            numbers[done] = number;
            whats[done] = what;
            olds[done] = was;
            news[done] = is;
            done++;
            known = done;
        }

        private void dropOldest() {
            done = MOST - 1;
            System.arraycopy(numbers, 1, numbers, 0, done);
            System.arraycopy(whats, 1, whats, 0, done);
            System.arraycopy(olds, 1, olds, 0, done);
            System.arraycopy(news, 1, news, 0, done);
        }

        void stepBack(Island island) {
            if (done > 0) {
                done--;
                island.write(numbers[done], whats[done], olds[done]);
            }
        }

        void stepOn(Island island) {
            if (done < known) {
                island.write(numbers[done], whats[done], news[done]);
                done++;
            }
        }
    }

    /** Bodies of kinds, whose acts come from above. */
    private static final class Words {
        static final int KINDS = 8, TRACED = 24;
        private static final int MOST = 50, ACTS = 4, MOST_DEPTH = 30;
        private static final int FALLS = 0, SAYS = 1, DENIES = 2, TELLS = 3;
        private static final int[] ABOVE = {-1, 0, 0, 2, 1, 3, 0, 4};
        /** By fours for each kind: the number of its own body of an act, or 0. */
        private static final int[] OWN = {
            1, 10, 11, 2,
            20, 0, 0, 0,
            0, 30, 0, 0,
            0, 41, 40, 0,
            0, 0, 50, 0,
            0, 0, 0, 60,
            70, 0, 0, 0,
            0, 80, 0, 81,
        };

        final int[] kinds = new int[MOST];
        final int[] traced = new int[TRACED];
        int size, ran;
        private int number;

        int make(int kind) {
            if (size >= MOST) {
                return FULL;
            }
            kinds[size] = kind;
            size++;
            return size - 1;
        }

        boolean isUnder(int word, int kind) {
            int k = within(word, size) ? kinds[word] : -1;
            for (int step = 0; step < KINDS && k != kind && within(k, KINDS); step++) {
                k = ABOVE[k];
            }
            return k == kind;
        }

        int start(int word, int what, int x) {
            ran = 0;
            if (!within(word, size) || !within(what, ACTS)) {
                return 0;
            }
            number = word;
            return run(kinds[word], what, x, 0);
        }

        /** The kind, or the next one above it, that has a body of an act. */
        private static int owner(int kind, int what) {
            int k = kind;
            for (int step = 0; step < KINDS && within(k, KINDS) && OWN[k * ACTS + what] == 0; step++) {
                k = ABOVE[k];
            }
            return k;
        }

        private void note(int bodyNumber) {
            if (ran < TRACED) {
                traced[ran] = bodyNumber;
            }
            ran++;
        }

        private int run(int from, int what, int x, int depth) {
            int kind = owner(from, what);
            if (!within(kind, KINDS) || depth > MOST_DEPTH) {
                return 0;
            }
            int bodyNumber = OWN[kind * ACTS + what];
            int up = ABOVE[kind];
            int self = kinds[number];
            int deeper = depth + 1;
            note(bodyNumber);
            switch (bodyNumber) {
                case 1: return x + number;
                case 2: return run(self, SAYS, x, deeper) - run(self, DENIES, 1, deeper);
                case 10: return run(self, FALLS, x, deeper) * 2;
                case 11: return x ^ number;
                case 20: return run(up, FALLS, x, deeper) + 3;
                case 30: return -run(up, SAYS, x, deeper);
                case 40: return run(up, DENIES, x, deeper) * 3;
                case 41: return run(up, SAYS, x + 1, deeper);
                case 50: return run(up, DENIES, x, deeper) - run(self, FALLS, 2, deeper);
                case 60: return run(up, TELLS, x, deeper) ^ 5;
                case 70: return run(up, FALLS, x, deeper) * 2;
                case 80: return run(up, SAYS, x, deeper) + run(self, DENIES, 2, deeper);
                case 81: return run(up, TELLS, x, deeper) - 1;
                default: return 0;
            }
        }
    }

    /** What a shelf holds: nothing, a word, or a row. */
    private static final class Shelf {
        static final int NOTHING = 0, WORD = 1, ROW = 2;
        static final int MOST = 60, SORTS = 5;
        private static final int SHORTS = 1, INTS = 2, LONGS = 3;

        final long[] cells = new long[MOST];
        int holds, word, sort, size;

        /** A word, or with -1 nothing. */
        void holdWord(int itsWord) {
            holds = itsWord < 0 ? NOTHING : WORD;
            word = itsWord;
        }

        void holdRow(int itsSort, int n) {
            Arrays.fill(cells, 0L);
            holds = ROW;
            sort = itsSort;
            size = n;
        }

        boolean isOfBytes() {
            return holds == ROW && sort == BYTES;
        }

        /** What is said if something else is wanted than what is held. */
        int refusal() {
            return holds == NOTHING ? MISSING : OTHER_KIND;
        }

        /** Whether n elements are there from a place on. */
        boolean has(int at, int n) {
            return at >= 0 && n >= 0 && at <= size && n <= size - at;
        }

        /** A byte of a row; -1, which tells nobody and no weather, where there is none. */
        int small(int i) {
            return has(i, 1) ? (int) cells[i] : -1;
        }

        long kept(long v) {
            switch (sort) {
                case BYTES: return (byte) v;
                case SHORTS: return (short) v;
                case INTS: return (int) v;
                case LONGS: return v;
                default: return v != 0 ? 1 : 0;
            }
        }
    }
}
