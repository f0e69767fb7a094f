/**
 * Every refusal of every call, at the last number that is one and one step beyond it, in unlike states: what is
 * answered, of several the one named first, and that nothing is changed by it.
 */
public final class RefusalsTest {
    private static final int BAD = -1, NOT = -2, FULL = -3, STATE = -5, VOID = -2000000000;
    private static final int MISSING = -11, OTHER_KIND = -12, NO_PLACE = -13, BELOW_0 = -14;
    private static final long NONE = Long.MIN_VALUE;
    private static final Twins FRESH = Islands.FRESH, LIVED = Islands.LIVED;
    private static final Twins CROWDED = Islands.CROWDED, WORDY = Islands.WORDY;
    /** What stands on LIVED's shelves: a word, bytes, shorts, ints, longs, nothing. */
    private static final int WORD = 0, BYTES = 1, SHORTS = 2, INTS = 3, LONGS = 4, NOTHING = 5;
    private static final int[] NO_BYTES = {WORD, SHORTS, INTS, LONGS};

    public static void main(String[] args) {
        citizen();
        citizens();
        mendNumbers();
        mendValues();
        mendTheSame();
        of();
        feed();
        lawWithFault();
        says();
        all();
        saying();
        claims();
        happens();
        pay();
        payBoth();
        pairs();
        strangers();
        likely();
        liars();
        days();
        judge();
        fits();
        byTurns();
        drawn();
        claim();
        marry();
        paid();
        led();
        backUndoRedo();
        body();
        act();
        trace();
        keep();
        row();
        put();
        element();
        shift();
        taken();
        count();
        whatOnlyAnswers();
        Due.end("RefusalsTest");
    }

    private static void everywhere(String what, long due, Twins.Call call) {
        for (Twins twins : Islands.ALL) {
            twins.keep(what, due, call);
        }
    }

    /** One step beyond both ends, and as far as an int goes. */
    private static int[] outside(int least, int most) {
        return new int[] {least - 1, most + 1, Integer.MIN_VALUE, Integer.MAX_VALUE};
    }

    // ---- citizens

    private static void citizen() {
        for (int kin : outside(0, 7)) {
            everywhere("2: citizen " + kin, BAD, x -> x.citizen(kin));
        }
        CROWDED.keep("2: an eleventh one", FULL, x -> x.citizen(0));
        CROWDED.keep("2: an eleventh one", FULL, x -> x.citizen(7));
    }

    private static void citizens() {
        for (int shelf : outside(0, 5)) {
            everywhere("3: shelf " + shelf, BAD, x -> x.citizens(shelf, 0, 1));
        }
        for (int n : outside(1, 10)) {
            everywhere("3: n " + n, BAD, x -> x.citizens(0, 0, n));
        }
        LIVED.keep("3: BAD ahead of -12", BAD, x -> x.citizens(WORD, 0, 0));
        LIVED.keep("3: BAD ahead of -12", BAD, x -> x.citizens(SHORTS, 0, 11));
        for (int shelf : NO_BYTES) {
            LIVED.keep("3: no bytes on " + shelf, OTHER_KIND, x -> x.citizens(shelf, 0, 1));
            LIVED.keep("3: -12 at no place, too", OTHER_KIND, x -> x.citizens(shelf, -1, 1));
        }
        CROWDED.keep("3: booleans", OTHER_KIND, x -> x.citizens(4, 0, 1));
        LIVED.keep("3: the row is missing", 0, x -> x.citizens(NOTHING, 0, 1));
        LIVED.keep("3: a place below 0", 0, x -> x.citizens(BYTES, -1, 1));
        LIVED.keep("3: far below 0", 0, x -> x.citizens(BYTES, Integer.MIN_VALUE, 10));
        LIVED.keep("3: within a three", 0, x -> x.citizens(BYTES, 2, 1));
        LIVED.keep("3: at the row's end", 0, x -> x.citizens(BYTES, 4, 1));
        LIVED.keep("3: behind the row's end", 0, x -> x.citizens(BYTES, 5, 1));
        LIVED.keep("3: far behind", 0, x -> x.citizens(BYTES, Integer.MAX_VALUE, 10));
        CROWDED.keep("3: a row of none", 0, x -> x.citizens(2, 0, 1));
        CROWDED.keep("3: full, which is no refusal here", 0, x -> x.citizens(1, 0, 1));
    }

    private static void mendNumbers() {
        for (int what : outside(0, 6)) {
            everywhere("4: what " + what, VOID, x -> x.mend(0, what, 0));
        }
        for (int what = 0; what < 4; what++) {
            int one = what;
            for (int number : outside(0, 9)) {
                everywhere("4: number " + number + " what " + one, VOID, x -> x.mend(number, one, 1));
            }
            FRESH.keep("4: nobody is there", VOID, x -> x.mend(0, one, 1));
            LIVED.keep("4: the sixth of five", VOID, x -> x.mend(5, one, 1));
            WORDY.keep("4: the third of two", VOID, x -> x.mend(2, one, 1));
        }
        for (int what = 4; what < 7; what++) {
            int one = what;
            for (int number : outside(0, 0)) {
                everywhere("4: number 0 for " + one, VOID, x -> x.mend(number, one, 1));
            }
        }
    }

    private static void mendValues() {
        int[] least = {0, 0, 0, -1, 0, 0, 0};
        int[] most = {7, 12, 99, 5, 5, 2, 99};
        for (int what = 0; what < 7; what++) {
            int one = what;
            for (int v : outside(least[what], most[what])) {
                everywhere("4: what " + one + " becomes " + v, VOID, x -> x.mend(0, one, v));
            }
        }
    }

    /** It answers what it was, and is no change: what was undone can be done again. */
    private static void mendTheSame() {
        int[] lived = {0, 9, 10, -1, 2, 1, 1};
        int[] wordy = {3, 9, 10, -1, 0, 0, 0};
        for (int what = 0; what < 7; what++) {
            int one = what;
            LIVED.keep("4: the same number " + one, lived[one], x -> x.mend(0, one, lived[one]));
            WORDY.keep("4: the same number " + one, wordy[one], x -> x.mend(0, one, wordy[one]));
        }
        CROWDED.keep("4: the same DAY", 45, x -> x.mend(0, 6, 45));
    }

    private static void of() {
        for (int what : outside(0, 6)) {
            everywhere("5: what " + what, VOID, x -> x.of(0, what));
        }
        for (int what = 0; what < 4; what++) {
            int one = what;
            for (int number : outside(0, 9)) {
                everywhere("5: number " + number + " what " + one, VOID, x -> x.of(number, one));
            }
            FRESH.keep("5: nobody is there", VOID, x -> x.of(0, one));
            LIVED.keep("5: the sixth of five", VOID, x -> x.of(5, one));
        }
        for (int what = 4; what < 7; what++) {
            int one = what;
            for (int number : outside(0, 0)) {
                everywhere("5: number 0 for " + one, VOID, x -> x.of(number, one));
            }
        }
    }

    private static void feed() {
        for (int letter : outside(0, 255)) {
            everywhere("6: feed " + letter, BAD, x -> x.feed(letter));
        }
        WORDY.keep("6: a byte too many", FULL, x -> x.feed(0));
        WORDY.keep("6: a byte too many", FULL, x -> x.feed(255));
    }

    /** Nothing but the tape, which was empty ahead: the law that was in force stays. */
    private static void lawWithFault() {
        Twins byLaw = new Twins("by a law", x -> {
            Islands.lived(x);
            x.law();
        });
        Twins[] withEmptyTape = {FRESH, CROWDED, byLaw};
        for (Twins twins : withEmptyTape) {
            twins.keep("7: the empty tape", -100, TwoAgree::law);
            twins.keep("7: it ends too early", -103, x -> Due.law(x, "4;!"));
            twins.keep("7: a byte too many", -103, x -> Due.law(x, "(4))"));
        }
    }

    private static void says() {
        for (int c : outside(0, 9)) {
            everywhere("8: says " + c, BAD, x -> x.says(c));
        }
        FRESH.keep("8: nobody is there", BAD, x -> x.says(0));
        LIVED.keep("8: the sixth of five", BAD, x -> x.says(5));
    }

    // ---- agreeing

    private static void all() {
        for (int what : outside(0, 1)) {
            everywhere("9: all " + what, BAD, x -> x.all(what));
        }
    }

    private static void saying() {
        for (int weather : outside(0, 5)) {
            everywhere("10: saying " + weather, BAD, x -> x.saying(weather));
        }
    }

    private static void claims() {
        for (int shelf : outside(0, 5)) {
            everywhere("11: shelf " + shelf, BAD, x -> x.claims(shelf, 1, 0));
        }
        for (int n : outside(0, 40)) {
            everywhere("11: n " + n, BAD, x -> x.claims(BYTES, n, 0));
        }
        for (int what : outside(0, 2)) {
            everywhere("11: what " + what, BAD, x -> x.claims(BYTES, 1, what));
        }
        LIVED.keep("11: BAD ahead of -11", BAD, x -> x.claims(NOTHING, 41, 0));
        LIVED.keep("11: BAD ahead of -12", BAD, x -> x.claims(WORD, 0, 3));
        LIVED.keep("11: BAD ahead of NOT", BAD, x -> x.claims(BYTES, -1, 1));
        LIVED.keep("11: nothing", MISSING, x -> x.claims(NOTHING, 0, 0));
        for (int shelf : NO_BYTES) {
            LIVED.keep("11: no bytes on " + shelf, OTHER_KIND, x -> x.claims(shelf, 0, 1));
        }
        CROWDED.keep("11: booleans", OTHER_KIND, x -> x.claims(4, 1, 0));
        CROWDED.keep("11: no claims", NOT, x -> x.claims(2, 40, 1));
        CROWDED.keep("11: what is no citizen", NOT, x -> x.claims(3, 40, 1));
        CROWDED.keep("11: one citizen thrice", NOT, x -> x.claims(0, 3, 1));
    }

    private static void happens() {
        for (int shelf : outside(0, 5)) {
            everywhere("12: shelf " + shelf, BAD, x -> x.happens(shelf, 0));
        }
        for (int weather : outside(0, 5)) {
            everywhere("12: weather " + weather, BAD, x -> x.happens(BYTES, weather));
        }
        LIVED.keep("12: BAD ahead of -11", BAD, x -> x.happens(NOTHING, 6));
        LIVED.keep("12: BAD ahead of -12", BAD, x -> x.happens(WORD, -1));
        LIVED.keep("12: nothing", MISSING, x -> x.happens(NOTHING, 0));
        for (int shelf : NO_BYTES) {
            LIVED.keep("12: no bytes on " + shelf, OTHER_KIND, x -> x.happens(shelf, 0));
        }
        CROWDED.keep("12: no claims", NOT, x -> x.happens(2, 0));
        CROWDED.keep("12: one citizen thrice", NOT, x -> x.happens(0, 0));
    }

    private static void pay() {
        for (int weather : outside(0, 5)) {
            everywhere("13: weather " + weather, BAD, x -> x.pay(weather, 0));
        }
        for (int what : outside(0, 1)) {
            everywhere("13: what " + what, BAD, x -> x.pay(0, what));
        }
        FRESH.keep("13: nobody", NOT, x -> x.pay(0, 0));
        WORDY.keep("13: two of one kin", NOT, x -> x.pay(5, 1));
        WORDY.keep("13: BAD ahead of NOT", BAD, x -> x.pay(6, 0));
        WORDY.keep("13: BAD ahead of NOT", BAD, x -> x.pay(0, 2));
    }

    private static void payBoth() {
        int[] wrong = {-1, -10, 6, 16, 56, 60, 61, 65, 66, 100, 105, 0, 11, 22, 33, 44, 55,
            Integer.MIN_VALUE, Integer.MAX_VALUE};
        for (int ww : wrong) {
            everywhere("14: ww " + ww, BAD, x -> x.payBoth(ww, 0));
        }
        for (int what : outside(0, 2)) {
            everywhere("14: what " + what, BAD, x -> x.payBoth(1, what));
        }
        for (int what = 0; what < 3; what++) {
            int one = what;
            FRESH.keep("14: nobody", NOT, x -> x.payBoth(1, one));
            WORDY.keep("14: one pair of one kin", NOT, x -> x.payBoth(54, one));
        }
    }

    private static void pairs() {
        for (int what : outside(0, 2)) {
            everywhere("15: what " + what, BAD, x -> x.pairs(what));
        }
    }

    private static void strangers() {
        for (int weather : outside(0, 5)) {
            everywhere("16: weather " + weather, BAD, x -> x.strangers(weather));
        }
    }

    // ---- what was said, days

    private static void likely() {
        for (int shelf : outside(0, 5)) {
            everywhere("17: shelf " + shelf, NONE, x -> x.likely(shelf, 0, 0));
        }
        for (int weather : outside(0, 5)) {
            everywhere("17: weather " + weather, NONE, x -> x.likely(BYTES, weather, 0));
        }
        for (int part : outside(0, 1)) {
            everywhere("17: part " + part, NONE, x -> x.likely(BYTES, 0, part));
        }
        LIVED.keep("17: nothing", NONE, x -> x.likely(NOTHING, 0, 1));
        for (int shelf : NO_BYTES) {
            LIVED.keep("17: no bytes on " + shelf, NONE, x -> x.likely(shelf, 0, 1));
        }
        CROWDED.keep("17: booleans", NONE, x -> x.likely(4, 0, 0));
    }

    private static void liars() {
        for (int shelf : outside(0, 5)) {
            everywhere("18: shelf " + shelf, BAD, x -> x.liars(shelf, 0));
        }
        for (int what : outside(0, 1)) {
            everywhere("18: what " + what, BAD, x -> x.liars(BYTES, what));
        }
        LIVED.keep("18: BAD ahead of -11", BAD, x -> x.liars(NOTHING, 2));
        LIVED.keep("18: BAD ahead of -12", BAD, x -> x.liars(WORD, -1));
        LIVED.keep("18: nothing", MISSING, x -> x.liars(NOTHING, 0));
        for (int shelf : NO_BYTES) {
            LIVED.keep("18: no bytes on " + shelf, OTHER_KIND, x -> x.liars(shelf, 1));
        }
        CROWDED.keep("18: booleans", OTHER_KIND, x -> x.liars(4, 0));
    }

    private static void days() {
        for (int shelf : outside(0, 5)) {
            everywhere("19: shelf " + shelf, BAD, x -> x.days(shelf, 0));
        }
        for (int what : outside(0, 2)) {
            everywhere("19: what " + what, BAD, x -> x.days(BYTES, what));
        }
        LIVED.keep("19: BAD ahead of -11", BAD, x -> x.days(NOTHING, 3));
        LIVED.keep("19: BAD ahead of -12", BAD, x -> x.days(WORD, -1));
        LIVED.keep("19: nothing", MISSING, x -> x.days(NOTHING, 0));
        for (int shelf : NO_BYTES) {
            LIVED.keep("19: no bytes on " + shelf, OTHER_KIND, x -> x.days(shelf, 2));
        }
        CROWDED.keep("19: booleans", OTHER_KIND, x -> x.days(4, 0));
    }

    /** Tens beyond shelf 5, ones beyond it, and what is below 0. */
    private static final int[] NO_TWO_SHELVES = {-1, -10, -11, 6, 9, 16, 56, 60, 65, 66, 100, 110,
        Integer.MIN_VALUE, Integer.MAX_VALUE};

    private static void judge() {
        for (int ss : NO_TWO_SHELVES) {
            everywhere("20: ss " + ss, BAD, x -> x.judge(ss));
        }
        LIVED.keep("20: DAYS missing", MISSING, x -> x.judge(10 * NOTHING + BYTES));
        LIVED.keep("20: the other one missing", MISSING, x -> x.judge(10 * BYTES + NOTHING));
        for (int shelf : NO_BYTES) {
            LIVED.keep("20: DAYS no bytes on " + shelf, OTHER_KIND, x -> x.judge(10 * shelf + BYTES));
            LIVED.keep("20: the other no bytes on " + shelf, OTHER_KIND, x -> x.judge(10 * BYTES + shelf));
            LIVED.keep("20: DAYS first", OTHER_KIND, x -> x.judge(10 * shelf + NOTHING));
            LIVED.keep("20: DAYS first", MISSING, x -> x.judge(10 * NOTHING + shelf));
        }
        CROWDED.keep("20: nothing told", NOT, x -> x.judge(12));
        CROWDED.keep("20: no days, nothing told", NOT, x -> x.judge(22));
    }

    private static void fits() {
        for (int ss : NO_TWO_SHELVES) {
            everywhere("21: ss " + ss, BAD, x -> x.fits(ss, 0, 0));
        }
        for (int c : outside(0, 9)) {
            everywhere("21: citizen " + c, BAD, x -> x.fits(11, c, 0));
        }
        for (int what : outside(0, 2)) {
            everywhere("21: what " + what, BAD, x -> x.fits(11, 0, what));
        }
        LIVED.keep("21: the sixth of five", BAD, x -> x.fits(11, 5, 0));
        LIVED.keep("21: BAD ahead of -11", BAD, x -> x.fits(10 * NOTHING + BYTES, 5, 0));
        LIVED.keep("21: BAD ahead of -12", BAD, x -> x.fits(10 * BYTES + SHORTS, 0, 3));
        LIVED.keep("21: DAYS missing", MISSING, x -> x.fits(10 * NOTHING + BYTES, 0, 0));
        LIVED.keep("21: the other one missing", MISSING, x -> x.fits(10 * BYTES + NOTHING, 0, 1));
        for (int shelf : NO_BYTES) {
            LIVED.keep("21: DAYS no bytes on " + shelf, OTHER_KIND, x -> x.fits(10 * shelf + BYTES, 0, 2));
            LIVED.keep("21: the other no bytes on " + shelf, OTHER_KIND, x -> x.fits(10 * BYTES + shelf, 0, 0));
            LIVED.keep("21: DAYS first", OTHER_KIND, x -> x.fits(10 * shelf + NOTHING, 0, 1));
            LIVED.keep("21: DAYS first", MISSING, x -> x.fits(10 * NOTHING + shelf, 0, 2));
        }
        CROWDED.keep("21: no EYE", NOT, x -> x.fits(23, 0, 1));
        CROWDED.keep("21: no EYE, which is 0 of them", 0, x -> x.fits(23, 0, 0));
        CROWDED.keep("21: no KIN", 0, x -> x.fits(23, 0, 2));
    }

    private static void byTurns() {
        for (int weather : outside(0, 5)) {
            everywhere("22: weather " + weather, VOID, x -> x.byTurns(weather, 1, 0));
        }
        for (int n : outside(1, 4)) {
            everywhere("22: n " + n, VOID, x -> x.byTurns(0, n, 0));
        }
        for (int what : outside(0, 1)) {
            everywhere("22: what " + what, VOID, x -> x.byTurns(0, 1, what));
        }
    }

    private static void drawn() {
        int[] wrong = {-1, -101, -3040, 0, 1, 40, 41, 99, 100, 141, 199, 3000, 3041, 3099, 3100, 3101, 3140, 10101,
            Integer.MIN_VALUE, Integer.MAX_VALUE};
        for (int nm : wrong) {
            everywhere("23: nm " + nm, BAD, x -> x.drawn(1, nm, 0));
        }
        for (int weather : outside(0, 6)) {
            everywhere("23: weather " + weather, BAD, x -> x.drawn(1, 101, weather));
        }
    }

    // ---- in deed

    private static void claim() {
        for (int c : outside(0, 9)) {
            everywhere("24: claim " + c, BAD, x -> x.claim(c));
        }
        FRESH.keep("24: nobody is there", BAD, x -> x.claim(0));
        LIVED.keep("24: the sixth of five", BAD, x -> x.claim(5));
        LIVED.keep("24: he was there today", STATE, x -> x.claim(0));
        LIVED.keep("24: he was there today", STATE, x -> x.claim(1));
        for (int c = 0; c < 9; c++) {
            int one = c;
            CROWDED.keep("24: he was there today", STATE, x -> x.claim(one));
        }
    }

    private static void marry() {
        int[] wrong = {-1, -10, -12, 8, 9, 18, 78, 79, 80, 87, 88, 100, 101, 0, 11, 22, 33, 44, 55, 66, 77,
            Integer.MIN_VALUE, Integer.MAX_VALUE};
        for (int kk : wrong) {
            everywhere("26: marry " + kk, BAD, x -> x.marry(kk));
        }
    }

    private static void paid() {
        for (int c : outside(0, 9)) {
            everywhere("27: citizen " + c, BAD, x -> x.paid(c, 0));
        }
        for (int weather : outside(0, 6)) {
            everywhere("27: weather " + weather, BAD, x -> x.paid(0, weather));
        }
        LIVED.keep("27: the sixth of five", BAD, x -> x.paid(5, 0));
        LIVED.keep("27: nothing any more to one who is not bought", 0, x -> x.paid(0, 6));
    }

    private static void led() {
        for (int what : outside(0, 4)) {
            everywhere("28: led " + what, BAD, x -> x.led(what));
        }
    }

    private static void backUndoRedo() {
        FRESH.keep("30: no image", STATE, TwoAgree::back);
        CROWDED.keep("30: no image", STATE, TwoAgree::back);
        FRESH.keep("31: nothing changed", STATE, TwoAgree::undo);
        WORDY.keep("31: all is undone", STATE, TwoAgree::undo);
        FRESH.keep("32: nothing undone", STATE, TwoAgree::redo);
        CROWDED.keep("32: nothing undone", STATE, TwoAgree::redo);
        LIVED.keep("32: undone and done again", 2, x -> {
            x.undo();
            return x.redo();
        });
        LIVED.keep("31: done again and undone", 5, x -> {
            x.redo();
            return x.undo();
        });
    }

    // ---- acts, shelves

    private static void body() {
        for (int kind : outside(0, 7)) {
            everywhere("33: kind " + kind, BAD, x -> x.body(kind));
        }
        for (int kind = 0; kind < 8; kind++) {
            int one = kind;
            WORDY.keep("33: a fifty-first one", FULL, x -> x.body(one));
        }
    }

    private static void act() {
        for (Twins twins : Islands.ALL) {
            for (int body : outside(0, 49)) {
                twins.keepButTrace("34: body " + body, 0, x -> x.act(body, 0, 7));
            }
            for (int act : outside(0, 3)) {
                twins.keepButTrace("34: act " + act, 0, x -> x.act(0, act, 7));
            }
        }
        LIVED.keepButTrace("34: the fourth of three", 0, x -> x.act(3, 0, 7));
        WORDY.onlyAnswers("34: the same act", x -> x.act(0, 1, 9));
        CROWDED.keepButTrace("34: the second of one", 0, x -> x.act(1, 3, 7));
    }

    private static void trace() {
        for (int i : outside(0, 23)) {
            everywhere("35: trace " + i, BAD, x -> x.trace(i));
        }
        FRESH.keep("35: none ran", BAD, x -> x.trace(0));
        LIVED.keep("35: fourteen ran", BAD, x -> x.trace(14));
        WORDY.keep("35: eight ran", BAD, x -> x.trace(8));
    }

    private static void keep() {
        for (int shelf : outside(0, 5)) {
            everywhere("36: shelf " + shelf, BAD, x -> x.keep(shelf, -1));
            everywhere("36: shelf " + shelf, BAD, x -> x.keep(shelf, 0));
        }
        for (int body : outside(-1, 49)) {
            everywhere("36: body " + body, BAD, x -> x.keep(0, body));
        }
        FRESH.keep("36: no body is kept", BAD, x -> x.keep(0, 0));
        LIVED.keep("36: the fourth of three", BAD, x -> x.keep(BYTES, 3));
    }

    private static void row() {
        for (int shelf : outside(0, 5)) {
            everywhere("37: shelf " + shelf, BAD, x -> x.row(shelf, 0, 1));
            everywhere("37: BAD ahead of -14", BAD, x -> x.row(shelf, 0, -1));
        }
        for (int sort : outside(0, 4)) {
            everywhere("37: sort " + sort, BAD, x -> x.row(1, sort, 1));
            everywhere("37: BAD ahead of -14", BAD, x -> x.row(1, sort, -1));
        }
        for (int shelf = 0; shelf < 6; shelf++) {
            int one = shelf;
            everywhere("37: 61", BAD, x -> x.row(one, 0, 61));
            everywhere("37: far above 60", BAD, x -> x.row(one, 4, Integer.MAX_VALUE));
            everywhere("37: below 0", BELOW_0, x -> x.row(one, 3, -1));
            everywhere("37: far below 0", BELOW_0, x -> x.row(one, 0, Integer.MIN_VALUE));
        }
    }

    private static void put() {
        for (int shelf : outside(0, 5)) {
            everywhere("38: shelf " + shelf, BAD, x -> x.put(shelf, 0, 1));
        }
        LIVED.keep("38: nothing", MISSING, x -> x.put(NOTHING, 0, 1));
        LIVED.keep("38: -11 ahead of -13", MISSING, x -> x.put(NOTHING, -1, 1));
        LIVED.keep("38: a word", OTHER_KIND, x -> x.put(WORD, 0, 1));
        LIVED.keep("38: -12 ahead of -13", OTHER_KIND, x -> x.put(WORD, 60, 1));
        for (int shelf = BYTES; shelf <= LONGS; shelf++) {
            int one = shelf;
            for (int i : outside(0, 3)) {
                LIVED.keep("38: place " + i + " of four", NO_PLACE, x -> x.put(one, i, 1));
            }
        }
        CROWDED.keep("38: place 2 of two booleans", NO_PLACE, x -> x.put(4, 2, 1));
        CROWDED.keep("38: place 0 of none", NO_PLACE, x -> x.put(2, 0, 1));
    }

    private static void element() {
        for (int shelf : outside(0, 5)) {
            everywhere("39: shelf " + shelf, NONE, x -> x.element(shelf, 0));
        }
        LIVED.keep("39: nothing", NONE, x -> x.element(NOTHING, 0));
        LIVED.keep("39: a word", NONE, x -> x.element(WORD, 0));
        for (int shelf = BYTES; shelf <= LONGS; shelf++) {
            int one = shelf;
            for (int i : outside(0, 3)) {
                LIVED.keep("39: place " + i + " of four", NONE, x -> x.element(one, i));
            }
        }
        CROWDED.keep("39: place 0 of none", NONE, x -> x.element(2, 0));
    }

    private static void shift() {
        for (int shelf : outside(0, 5)) {
            everywhere("40: shelf " + shelf, BAD, x -> x.shift(shelf, 0, 1, 0, 0));
            everywhere("40: other " + shelf, BAD, x -> x.shift(1, 0, shelf, 0, 0));
            LIVED.keep("40: BAD ahead of -11", BAD, x -> x.shift(NOTHING, 0, shelf, 0, 0));
            LIVED.keep("40: BAD ahead of -12", BAD, x -> x.shift(shelf, 0, WORD, 0, 0));
        }
        LIVED.keep("40: nothing here", MISSING, x -> x.shift(NOTHING, 0, BYTES, 0, 1));
        LIVED.keep("40: nothing there", MISSING, x -> x.shift(BYTES, 0, NOTHING, 0, 1));
        LIVED.keep("40: nothing at both", MISSING, x -> x.shift(NOTHING, 0, NOTHING, 0, 0));
        LIVED.keep("40: -11 there ahead of -12 here", MISSING, x -> x.shift(WORD, 0, NOTHING, 0, 1));
        LIVED.keep("40: -11 here ahead of -12 there", MISSING, x -> x.shift(NOTHING, 0, WORD, 0, 1));
        LIVED.keep("40: -11 ahead of -13", MISSING, x -> x.shift(BYTES, -1, NOTHING, 0, 1));
        for (int shelf = WORD; shelf <= LONGS; shelf++) {
            for (int other = WORD; other <= LONGS; other++) {
                int from = shelf;
                int to = other;
                if (from != to || from == WORD) {
                    LIVED.keep("40: " + from + " to " + to, OTHER_KIND, x -> x.shift(from, 0, to, 0, 1));
                    LIVED.keep("40: none of them", OTHER_KIND, x -> x.shift(from, 0, to, 0, 0));
                    LIVED.keep("40: -12 ahead of -13", OTHER_KIND, x -> x.shift(from, -1, to, 5, -1));
                }
            }
        }
        shiftToNoPlace();
    }

    private static void shiftToNoPlace() {
        for (int shelf = BYTES; shelf <= LONGS; shelf++) {
            int one = shelf;
            LIVED.keep("40: from -1 on", NO_PLACE, x -> x.shift(one, -1, one, 0, 1));
            LIVED.keep("40: to -1 on", NO_PLACE, x -> x.shift(one, 0, one, -1, 1));
            LIVED.keep("40: from -1 on, none", NO_PLACE, x -> x.shift(one, -1, one, 0, 0));
            LIVED.keep("40: to -1 on, none", NO_PLACE, x -> x.shift(one, 0, one, -1, 0));
            LIVED.keep("40: behind the end, none", NO_PLACE, x -> x.shift(one, 5, one, 0, 0));
            LIVED.keep("40: to behind the end, none", NO_PLACE, x -> x.shift(one, 0, one, 5, 0));
            LIVED.keep("40: five of four", NO_PLACE, x -> x.shift(one, 0, one, 0, 5));
            LIVED.keep("40: four from 1 on", NO_PLACE, x -> x.shift(one, 1, one, 0, 4));
            LIVED.keep("40: four to 1 on", NO_PLACE, x -> x.shift(one, 0, one, 1, 4));
            LIVED.keep("40: n below 0", NO_PLACE, x -> x.shift(one, 1, one, 2, -1));
            LIVED.keep("40: the sum wraps", NO_PLACE, x -> x.shift(one, 1, one, 2, Integer.MAX_VALUE));
            LIVED.keep("40: the sum wraps", NO_PLACE, x -> x.shift(one, Integer.MAX_VALUE, one, 0, 1));
            LIVED.keep("40: the sum wraps", NO_PLACE, x -> x.shift(one, 0, one, Integer.MAX_VALUE, 1));
            LIVED.keep("40: far below", NO_PLACE, x -> x.shift(one, Integer.MIN_VALUE, one, 0, Integer.MIN_VALUE));
            LIVED.keep("40: none", 0, x -> x.shift(one, 4, one, 4, 0));
            LIVED.keep("40: all to where they are", 4, x -> x.shift(one, 0, one, 0, 4));
        }
    }

    private static void taken() {
        for (int shelf : outside(0, 5)) {
            everywhere("41: shelf " + shelf, BAD, x -> x.taken(shelf, 0));
        }
        for (int k : outside(0, 7)) {
            everywhere("41: kind " + k, BAD, x -> x.taken(0, k));
        }
        LIVED.keep("41: BAD ahead of -11", BAD, x -> x.taken(NOTHING, 8));
        LIVED.keep("41: BAD ahead of -12", BAD, x -> x.taken(BYTES, -1));
        LIVED.keep("41: nothing", MISSING, x -> x.taken(NOTHING, 0));
        for (int shelf = BYTES; shelf <= LONGS; shelf++) {
            int one = shelf;
            LIVED.keep("41: a row", OTHER_KIND, x -> x.taken(one, 0));
        }
        int[] notOverFog = {1, 4, 5, 6, 7};
        for (int k : notOverFog) {
            LIVED.keep("41: a FOG for " + k, OTHER_KIND, x -> x.taken(WORD, k));
        }
    }

    private static void count() {
        for (int what : outside(0, 5)) {
            everywhere("42: count " + what, BAD, x -> x.count(what));
        }
    }

    // ---- calls that tell what is, or what would be

    private static void whatOnlyAnswers() {
        for (Twins on : Islands.ALL) {
            for (int i = 0; i < 6; i++) {
                int v = i;
                on.onlyAnswers("of", x -> x.of(0, v));
                on.onlyAnswers("says", x -> x.says(v));
                on.onlyAnswers("saying", x -> x.saying(v));
                on.onlyAnswers("happens", x -> x.happens(1, v));
                on.onlyAnswers("pay", x -> x.pay(v, 1));
                on.onlyAnswers("payBoth", x -> x.payBoth(10 * v + (v + 1) % 6, v % 3));
                on.onlyAnswers("strangers", x -> x.strangers(v));
                on.onlyAnswers("likely", x -> x.likely(1, v, v % 2));
                on.onlyAnswers("drawn", x -> x.drawn(v, 340, v + 1));
                on.onlyAnswers("led", x -> x.led(v));
                on.onlyAnswers("count", x -> x.count(v));
                on.onlyAnswers("taken", x -> x.taken(0, v));
                on.onlyAnswers("element", x -> x.element(v, 0));
                on.onlyAnswers("trace", x -> x.trace(v));
            }
            for (int i = 0; i < 3; i++) {
                int what = i;
                on.onlyAnswers("all", x -> x.all(what));
                on.onlyAnswers("claims", x -> x.claims(1, 40, what));
                on.onlyAnswers("pairs", x -> x.pairs(what));
                on.onlyAnswers("liars", x -> x.liars(1, what));
                on.onlyAnswers("days", x -> x.days(1, what));
                on.onlyAnswers("fits", x -> x.fits(11, 0, what));
            }
            for (int n = 1; n <= 4; n++) {
                int times = n;
                on.onlyAnswers("byTurns", x -> x.byTurns(times, times, times % 2));
            }
            on.onlyAnswers("judge", x -> x.judge(11));
        }
    }
}
