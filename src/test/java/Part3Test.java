/** The bounds that stand in part 3 of the terms: what was said, days, almanacs, buying by turns. */
public final class Part3Test {
    private static final int NOT = -2;

    public static void main(String[] args) {
        eightTwos();
        saidEnds();
        eyesOfTwelve();
        lowestTerms();
        noneCanBe();
        fewestLiars();
        fortyDays();
        daysEnd();
        droughty();
        justWhatFalls();
        day99Stays();
        almanacBits();
        moreThanDays();
        judgedFirst();
        eachTwoShelves();
        thirteenEyes();
        eightKins();
        fitsByDay();
        oneToFourTurns();
        turnsOfThoseNotBought();
        theNextBehind5();
        likeOnesByTurns();
        pricesByTurns();
        Due.end("Part3Test");
    }

    private static int[] repeated(int times, int... part) {
        int[] all = new int[times * part.length];
        for (int i = 0; i < all.length; i++) {
            all[i] = part[i % part.length];
        }
        return all;
    }

    private static void likely(TwoAgree x, String what, int weather, long above, long below) {
        Due.is("17: " + what + ", above the line", x.likely(0, weather, 0), above);
        Due.is("17: " + what + ", below the line", x.likely(0, weather, 1), below);
    }

    // ---- "SAID: by twos a CITIZEN, and what he said (8 twos at most; it ends with what is no such, or lacks)"

    private static void eightTwos() {
        TwoAgree x = Due.island(0, 1);
        x.mend(1, 1, 12);
        for (int twos = 6; twos <= 10; twos++) {
            int[] row = repeated(twos, 0, 2);
            row[2 * twos - 2] = 1;
            row[2 * twos - 1] = 4;
            Due.bytes(x, 0, row);
            boolean counts = twos <= 8;
            Due.is("18: the last of " + twos, x.liars(0, 0), counts ? 1 : 0);
            // The last one is always right; if he does not count, 15 to the 8th stands for 2, and 1 for each other one.
            Due.is("17: 4 by the last of " + twos, x.likely(0, 4, 1), counts ? 1 : 2562890630L);
            Due.is("17: 2 by the last of " + twos, x.likely(0, 2, 0), counts ? 0 : 512578125);
        }
        Due.bytes(x, 0, repeated(30, 0, 2));
        Due.is("18: thirty", x.liars(0, 0), 0);
    }

    private static void saidEnds() {
        TwoAgree x = Due.island(0, 1, 2);
        likelyOfNothing(x);
        for (int none : new int[] {-128, -1, 3, 4, 9, 10, 127}) {
            Due.bytes(x, 0, 0, 1, none, 1, 1, 4, 1, 4);
            likely(x, "it ends with citizen " + none, 1, 3, 4);
            Due.is("18: it ends with citizen " + none, x.liars(0, 1), 1);
        }
        for (int none : new int[] {-128, -1, 6, 7, 127}) {
            Due.bytes(x, 0, 0, 1, 1, none, 1, 4, 1, 4);
            likely(x, "it ends with weather " + none, 1, 3, 4);
            Due.is("18: it ends with weather " + none, x.liars(0, 0), 0);
        }
        Due.bytes(x, 0, 0, 1, 2);
        likely(x, "the last two lacks", 1, 3, 4);
        Due.bytes(x, 0, 2, 5, 2);
        likely(x, "citizen 2 and weather 5 are such", 5, 3, 4);
        Due.is("18: citizen 2 and weather 5 are such", x.liars(0, 1), 5);
        Due.bytes(x, 0, 0, 0, 1);
        likely(x, "citizen 0 and weather 0 are such", 0, 3, 4);
    }

    private static void likelyOfNothing(TwoAgree x) {
        int[][] nothing = {{}, {0}, {3, 1, 0, 1}, {0, 6, 0, 1}};
        for (int[] row : nothing) {
            Due.bytes(x, 0, row);
            for (int w = 0; w < 6; w++) {
                likely(x, "nothing was said", w, 1, 6);
            }
            Due.is("18: nothing was said", x.liars(0, 0), 0);
            Due.is("18: nothing was said", x.liars(0, 1), 0);
        }
    }

    // ---- "LIKELY: all six alike ahead, each saying it right with EYE of twelve, else any other one alike"

    /** One says 3: right by EYE of twelve, each other one by a fifth of what is left. */
    private static void eyesOfTwelve() {
        long[] above = {0, 1, 1, 1, 1, 5, 1, 7, 2, 3, 5, 11, 1};
        long[] below = {1, 12, 6, 4, 3, 12, 2, 12, 3, 4, 6, 12, 1};
        long[] otherAbove = {1, 11, 1, 3, 2, 7, 1, 1, 1, 1, 1, 1, 0};
        long[] otherBelow = {5, 60, 6, 20, 15, 60, 10, 12, 15, 20, 30, 60, 1};
        TwoAgree x = Due.island(0);
        Due.bytes(x, 0, 0, 3);
        for (int eye = 0; eye <= 12; eye++) {
            x.mend(0, 1, eye);
            for (int w = 0; w < 6; w++) {
                likely(x, "EYE " + eye + " for " + w, w, w == 3 ? above[eye] : otherAbove[eye],
                    w == 3 ? below[eye] : otherBelow[eye]);
            }
        }
    }

    private static void lowestTerms() {
        TwoAgree x = Due.island(0, 1);
        x.mend(0, 1, 11);
        Due.bytes(x, 0, repeated(8, 0, 2));
        // 55 to the 8th and five others of 1, all by 5.
        likely(x, "eight by EYE 11", 2, 16746787578125L, 16746787578126L);
        likely(x, "eight by EYE 11, another", 5, 1, 83733937890630L);
        x.mend(0, 1, 12);
        likely(x, "eight by EYE 12", 2, 1, 1);
        x.mend(0, 1, 1);
        // 5 to the 8th and five others of 11 to the 8th.
        likely(x, "eight by EYE 1", 2, 78125, 214437006);
        x.mend(0, 1, 9);
        Due.bytes(x, 0, 0, 2, 1, 4);
        // 45 * 3 twice, 3 * 3 four times: 135 of 306.
        likely(x, "two who differ", 2, 15, 34);
        likely(x, "two who differ", 4, 15, 34);
        likely(x, "two who differ", 0, 1, 34);
    }

    /** "none can be: 0 by 1" */
    private static void noneCanBe() {
        TwoAgree x = Due.island(0, 1);
        x.mend(0, 1, 12);
        x.mend(1, 1, 12);
        Due.bytes(x, 0, 0, 2, 1, 3);
        for (int w = 0; w < 6; w++) {
            likely(x, "both are always right", w, 0, 1);
        }
        x.mend(1, 1, 11);
        likely(x, "one of them is not", 2, 1, 1);
        likely(x, "one of them is not", 3, 0, 1);
        x.mend(0, 1, 0);
        x.mend(1, 1, 0);
        Due.bytes(x, 0, 0, 0, 1, 1, 0, 2, 1, 3, 0, 4, 1, 5);
        for (int w = 0; w < 6; w++) {
            likely(x, "each weather was said by one who is never right", w, 0, 1);
        }
        Due.bytes(x, 0, 0, 0, 1, 1, 0, 2, 1, 3, 0, 4);
        likely(x, "all but 5", 5, 1, 1);
        likely(x, "all but 5", 4, 0, 1);
    }

    // ---- "LIARS: by how few of these something else was said: how many; by which WEATHER (the least)"

    private static void fewestLiars() {
        TwoAgree x = Due.island(0, 1);
        int[][] rows = {{0, 5}, {0, 5, 1, 4}, {0, 5, 1, 4, 0, 5}, {0, 0, 1, 0}, {0, 3, 0, 2, 0, 1, 0, 0},
            {0, 5, 0, 4, 0, 3, 0, 2, 0, 1, 0, 0, 0, 5, 0, 5}, {0, 1, 0, 5, 0, 5, 0, 1, 0, 2, 0, 3, 0, 4, 0, 0}};
        int[] howMany = {0, 1, 1, 0, 3, 5, 6};
        int[] by = {5, 4, 5, 0, 0, 5, 1};
        for (int i = 0; i < rows.length; i++) {
            Due.bytes(x, 0, rows[i]);
            Due.is("18: how many of row " + i, x.liars(0, 0), howMany[i]);
            Due.is("18: by which of row " + i, x.liars(0, 1), by[i]);
        }
    }

    // ---- "DAYS: what FALLS, day by day from now (40 at most; it ends with what is none)"

    private static void fortyDays() {
        TwoAgree wet = Due.island(0, 1);
        TwoAgree dry = Due.island(0, 0);
        for (int days : new int[] {0, 1, 39, 40, 41, 60}) {
            Due.bytes(wet, 0, repeated(days, 3));
            Due.bytes(dry, 0, repeated(days, 3));
            Due.is("19: something on " + days, wet.days(0, 0), Math.min(40, days));
            Due.is("19: just 3 on " + days, wet.days(0, 1), Math.min(40, days));
            Due.is("19: no drought on " + days, wet.days(0, 2), 0);
            Due.is("19: nothing on " + days, dry.days(0, 0), 0);
            Due.is("19: just 3 never", dry.days(0, 1), 0);
            Due.is("19: a drought on " + days, dry.days(0, 2), Math.min(40, days));
        }
    }

    private static void daysEnd() {
        TwoAgree x = Due.island(0, 1);
        for (int none : new int[] {-128, -1, 6, 7, 127}) {
            Due.bytes(x, 0, 5, 0, none, 3, 3);
            Due.is("19: it ends with " + none, x.days(0, 0), 2);
            Due.bytes(x, 0, none, 3);
            Due.is("19: it ends at once with " + none, x.days(0, 0), 0);
        }
    }

    /** "DROUGHTY: the most days one behind the other on which nothing HAS": at either end, and in between. */
    private static void droughty() {
        TwoAgree x = Due.island(0, 1);
        Due.law(x, "t=5?c*5;t");
        int[][] rows = {{5, 5, 1}, {1, 5, 5}, {5, 1, 5}, {5, 1, 5, 5, 1, 5}, {5, 5, 5, 1, 5, 5}, {1, 1}, {5}};
        int[] most = {2, 2, 1, 2, 3, 0, 1};
        for (int i = 0; i < rows.length; i++) {
            Due.bytes(x, 0, rows[i]);
            Due.is("19: dry of row " + i, x.days(0, 2), most[i]);
        }
    }

    private static void justWhatFalls() {
        TwoAgree x = Due.island(0, 1, 2, 3);
        x.paid(2, 2);
        x.paid(3, 2);
        Due.bytes(x, 0, 2, 3, 4);
        Due.is("19: 2 happens each day", x.days(0, 0), 3);
        Due.is("19: it alone on the first", x.days(0, 1), 1);
        x.paid(3, 3);
        Due.is("19: none but what falls happens now", x.days(0, 1), 3);
        x.mend(0, 5, 1);
        Due.is("19: just 2, then 2 and 3, then 2, 3 and 4", x.days(0, 1), 1);
    }

    /** "DAY as each day is (99 stays)": how many days are of DAY 99, from 97 on. */
    private static void day99Stays() {
        TwoAgree x = Due.island(0, 1);
        Due.law(x, "d=99?2;c*5");
        int[] from = {97, 98, 99};
        for (int i = 0; i < 3; i++) {
            x.mend(0, 6, from[i]);
            Due.bytes(x, 0, 2, 2, 2, 2, 2);
            Due.is("19: on days of 99", x.days(0, 0), 3 + i);
            Due.is("19: ahead of them", x.days(0, 2), 2 - i);
        }
        x.mend(0, 6, 59);
        Due.bytes(x, 0, repeated(40, 2));
        Due.is("19: the fortieth day behind 59 is 98", x.days(0, 0), 0);
        x.mend(0, 6, 60);
        Due.is("19: the fortieth day from 60 on is 99", x.days(0, 0), 1);
        Due.is("19: DAY stays", x.of(0, 6), 60);
    }

    // ---- "ALMANAC: which have HAPPENED (bits 0 .. 63), day by day"

    private static void almanacBits() {
        TwoAgree all = Due.island(0, 1, 2, 3, 4, 5, 6);
        int[] said = {0, 1, 2, 3, 4, 5, 5};
        for (int c = 0; c < said.length; c++) {
            all.paid(c, said[c]);
        }
        all.mend(0, 5, 1);
        TwoAgree none = Due.island(4, 4);
        int[] told = {-128, -64, -1, 0, 1, 62, 63, 64, 127};
        for (int bits : told) {
            Due.bytes(all, 0, 3);
            Due.bytes(none, 0, 3);
            Due.bytes(all, 1, bits);
            Due.bytes(none, 1, bits);
            Due.is("20: all six, told " + bits, all.judge(1), bits == 63 ? NOT : 0);
            Due.is("20: none, told " + bits, none.judge(1), bits == 0 ? NOT : 0);
            Due.is("21: all six, told " + bits, all.fits(1, 0, 0), bits == 63 ? 13 : 0);
            Due.is("21: none, told " + bits, none.fits(1, 0, 0), bits == 0 ? 6 + 7 : 0);
        }
    }

    /** "the first that is not so (more than DAYS, too)" */
    private static void moreThanDays() {
        TwoAgree x = Due.island(0, 1);
        for (int days = 0; days <= 42; days++) {
            Due.bytes(x, 0, repeated(days, 1));
            int counted = Math.min(40, days);
            for (int told : new int[] {Math.max(0, counted - 1), counted, counted + 1}) {
                TwoAgree y = Due.island(0, 1);
                Due.bytes(y, 0, repeated(days, 1));
                Due.bytes(y, 1, repeated(told, 2));
                String what = told + " told by " + days;
                Due.is("20: " + what, y.judge(1), told > counted ? counted : NOT);
                Due.is("21: " + what, y.fits(1, 1, 2), told > counted ? 0 : told == 0 ? 255 : 255 - 1);
            }
        }
        Due.bytes(x, 0, 1, 1, 6, 1);
        Due.bytes(x, 1, 2, 2, 2, 2);
        Due.is("20: the days end with what is none", x.judge(1), 2);
        Due.bytes(x, 1, repeated(60, 0));
        Due.bytes(x, 0, repeated(60, 1));
        Due.is("20: the first of sixty", x.judge(1), 0);
        Due.bytes(x, 0);
        Due.bytes(x, 1);
        Due.is("20: no days, nothing told", x.judge(1), NOT);
        Due.bytes(x, 1, 0);
        Due.is("20: no days, one told", x.judge(1), 0);
    }

    private static void judgedFirst() {
        TwoAgree x = Due.island(0, 1);
        for (int wrong = 0; wrong < 40; wrong++) {
            int[] told = repeated(40, 2);
            told[wrong] = 0;
            told[39] = 0;
            Due.bytes(x, 0, repeated(40, 1));
            Due.bytes(x, 1, told);
            Due.is("20: the first that is not so", x.judge(1), wrong);
        }
    }

    /** "10 times the SHELF of DAYS, and that of what HAPPENED" */
    private static void eachTwoShelves() {
        TwoAgree x = Due.island(0, 1);
        for (int shelf = 0; shelf < 6; shelf++) {
            Due.bytes(x, shelf, repeated(shelf + 1, 1));
            x.put(shelf, shelf, 2);
        }
        // Days of 1 and told bits of 1, which would be for 0: told on the last day alone 2, which is for 1.
        for (int days = 0; days < 6; days++) {
            for (int told = 0; told < 6; told++) {
                int ss = 10 * days + told;
                Due.is("20: " + ss, x.judge(ss), told == 0 && days > 0 ? NOT : 0);
                Due.is("21: " + ss, x.fits(ss, 1, 0), told == 0 && days > 0 ? 7 : 0);
            }
        }
        for (int shelf = 0; shelf < 6; shelf++) {
            Due.bytes(x, shelf, repeated(shelf + 1, 1));
        }
        x.marry(1);
        x.mend(0, 4, 5);
        for (int days = 0; days < 6; days++) {
            for (int told = 0; told < 6; told++) {
                Due.bytes(x, told, repeated(told + 1, 0));
                int due = told > days ? days + 1 : NOT;
                Due.is("20: so many days", x.judge(10 * days + told), due);
                Due.is("21: so many days", x.fits(10 * days + told, 0, 2), told > days ? 0 : 1);
            }
        }
    }

    // ---- "EYES: by how many EYES (0 .. 12) of one all is so; the least (NOT). KINS: by which KINS (bits)"

    /** By the law both say 4, if his EYE is just so; else only one does. */
    private static void thirteenEyes() {
        TwoAgree x = Due.island(0, 1);
        Due.bytes(x, 0, 4);
        Due.bytes(x, 1, 16);
        for (int eye = 0; eye <= 13; eye++) {
            Due.law(x, "c=0?4;e=" + eye + "?4");
            Due.is("21: EYE " + eye + " alone", x.fits(1, 1, 0), eye < 13 ? 1 : 0);
            Due.is("21: it is the least", x.fits(1, 1, 1), eye < 13 ? eye : NOT);
        }
        Due.law(x, "4");
        Due.is("21: all thirteen", x.fits(1, 1, 0), 13);
        Due.is("21: 0 is the least", x.fits(1, 1, 1), 0);
        Due.law(x, "c=0?4;e>3?4");
        Due.is("21: 4 to 12", x.fits(1, 1, 0), 9);
        Due.is("21: the least", x.fits(1, 1, 1), 4);
        Due.is("21: his EYE stays", x.of(1, 1), 9);
        // EYE 0, or KIN 0, alone fits the first day; what is told of the second one no EYE fits.
        Due.law(x, "c=0?4;e=0|k=0?4");
        x.mend(0, 0, 3);
        Due.bytes(x, 0, 4, 4);
        Due.bytes(x, 1, 16, 0);
        Due.is("21: not on both days", x.fits(1, 1, 0), 0);
        Due.is("21: none is the least", x.fits(1, 1, 1), NOT);
        Due.is("21: no KIN on both days", x.fits(1, 1, 2), 0);
    }

    private static void eightKins() {
        TwoAgree x = Due.island(0, 1);
        Due.bytes(x, 0, 4);
        Due.bytes(x, 1, 16);
        for (int kin = 0; kin <= 8; kin++) {
            Due.law(x, "c=0?4;k=" + kin + "?4");
            Due.is("21: KIN " + kin + " alone", x.fits(1, 1, 2), kin > 0 && kin < 8 ? 1 << kin : 0);
        }
        for (int kin = 0; kin < 8; kin++) {
            x.mend(0, 0, kin);
            Due.law(x, "4");
            Due.is("21: all kins but the other one's", x.fits(1, 1, 2), 255 - (1 << kin));
        }
        Due.bytes(x, 1, 0);
        Due.is("21: the other one's alone", x.fits(1, 1, 2), 128);
        Due.bytes(x, 1);
        Due.is("21: nothing told", x.fits(1, 1, 2), 255);
        Due.is("21: his KIN stays", x.of(1, 0), 1);
    }

    private static void fitsByDay() {
        TwoAgree x = Due.island(0, 1);
        Due.law(x, "c=0?4;d=99&e=12?4");
        x.mend(0, 6, 98);
        Due.bytes(x, 0, 4, 4, 4);
        Due.bytes(x, 1, 0, 16, 16);
        Due.is("21: dry on 98, then 99 stays", x.fits(1, 1, 0), 1);
        Due.is("21: EYE 12", x.fits(1, 1, 1), 12);
        Due.bytes(x, 1, 16);
        Due.is("21: not on 98", x.fits(1, 1, 1), NOT);
    }

    // ---- "BY TURNS: n (1 .. 4) times in all, the first one first"

    private static void turns(TwoAgree x, String what, int weather, int n, int value, int first) {
        Due.is("22: " + what + ", " + n + " times", x.byTurns(weather, n, 0), value);
        Due.is("22: " + what + ", " + n + " times, whom first", x.byTurns(weather, n, 1), first);
    }

    /** Two of unlike KIN say 0: the second turn takes one away, if it costs less than 100. */
    private static void oneToFourTurns() {
        TwoAgree x = Due.island(0, 1);
        turns(x, "it happens", 0, 1, 100, 10);
        // The first one guards one by buying him for 10; the other one buys the other for 10.
        turns(x, "it is taken away", 0, 2, 10, 10);
        turns(x, "nobody is left to mend it", 0, 3, 10, 10);
        turns(x, "four of them", 0, 4, 10, 10);
        turns(x, "3 cannot be by one", 3, 1, 0, 10);
        turns(x, "nor by one of two turns of his own", 3, 2, 0, 10);
        // He buys one; the other party buys the other one for 10, who says 4: 3 is not.
        turns(x, "nor by two", 3, 3, 0, 10);
        TwoAgree three = Due.island(0, 1, 2);
        turns(three, "by two of three", 3, 3, 80, 0);
        turns(three, "the last turn takes away one of those left", 3, 4, 80, 0);
        TwoAgree none = new TwoAgree();
        for (int n = 1; n <= 4; n++) {
            turns(none, "nobody is there", 5, n, 0, 10);
        }
    }

    /** "a CITIZEN not BOUGHT (nobody twice), or nobody" */
    private static void turnsOfThoseNotBought() {
        TwoAgree x = Due.island(0, 1);
        x.paid(0, 0);
        turns(x, "1 alone is for sale", 0, 1, 100, 10);
        turns(x, "the first one buys 1, lest the other one does", 0, 2, 90, 1);
        x.mend(1, 2, 0);
        turns(x, "he costs nothing", 0, 2, 100, 1);
        x.paid(1, 0);
        turns(x, "both are bought", 0, 4, 100, 10);
        x.paid(1, 3);
        turns(x, "both are bought", 0, 4, 0, 10);
        TwoAgree last = Due.island(0, 1, 2, 3, 4, 5, 6, 7, 0, 1);
        for (int c = 0; c < 9; c++) {
            last.paid(c, 2);
        }
        last.paid(8, 4);
        turns(last, "nobody but 9 is for sale", 4, 1, 90, 9);
    }

    /** "the other one's the next (behind 5: 0)" */
    private static void theNextBehind5() {
        for (int w = 0; w < 6; w++) {
            TwoAgree x = Due.island(0, 1);
            x.mend(0, 4, w);
            x.mend(0, 2, 99);
            x.mend(1, 2, 60);
            x.mend(0, 5, 1);
            turns(x, "WIDE 1, " + w, w, 2, w == 5 ? 60 : 100, 10);
            x.mend(0, 5, 0);
            turns(x, "WIDE 0, " + w, w, 2, 60, 10);
        }
    }

    /** "of like ones nobody first, then the least" */
    private static void likeOnesByTurns() {
        TwoAgree x = Due.island(0, 1, 2, 3);
        x.paid(3, 4);
        turns(x, "the least of three who cost the same", 4, 1, 90, 0);
        x.mend(0, 2, 11);
        turns(x, "the least of two", 4, 1, 90, 1);
        x.mend(2, 2, 9);
        turns(x, "the one who costs least", 4, 1, 91, 2);
        x.mend(2, 2, 0);
        turns(x, "for nothing", 4, 1, 100, 2);
        x.mend(0, 4, 4);
        turns(x, "nobody, if it happens anyway", 4, 1, 100, 10);
        turns(x, "nobody, if it cannot be", 1, 1, 0, 10);
    }

    /** 100 is what it is worth: with 99 it is bought, and two for 100 or more are not. */
    private static void pricesByTurns() {
        TwoAgree x = Due.island(0, 1);
        x.paid(1, 4);
        for (int price : new int[] {0, 1, 50, 98, 99}) {
            x.mend(0, 2, price);
            turns(x, "for " + price, 4, 1, 100 - price, 0);
        }
        TwoAgree two = Due.island(0, 1, 2);
        two.mend(0, 2, 50);
        two.mend(1, 2, 49);
        two.mend(2, 2, 99);
        // If he bought 0 first, the other one would buy 1, and 2 for 99 would leave nothing.
        turns(two, "two for 99", 4, 3, 1, 1);
        two.mend(1, 2, 50);
        turns(two, "two for 100", 4, 3, 0, 10);
    }
}
