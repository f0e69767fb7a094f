/** Promises 17 to 23: likely, liars, days, judge, fits, byTurns, drawn. */
public final class DaysTest {
    private static final int BAD = -1, NOT = -2, VOID = -2000000000;

    public static void main(String[] args) {
        likelihood();
        lying();
        saidWrong();
        goingThrough();
        judging();
        fitting();
        fittingByDay();
        buying();
        drawing();
        Due.end("DaysTest");
    }

    private static void likelihood() {
        TwoAgree x = Due.island(0, 1, 2);
        x.mend(1, 1, 3);
        x.mend(2, 1, 12);
        Due.bytes(x, 0, 0, 4);
        // Eye 9: 45 for it, 3 for each other one: 45 of 60.
        Due.is("17: above", x.likely(0, 4, 0), 3);
        Due.is("17: below", x.likely(0, 4, 1), 4);
        Due.is("17: another", x.likely(0, 1, 0), 1);
        Due.is("17: another", x.likely(0, 1, 1), 20);
        Due.bytes(x, 0, 0, 4, 1, 4);
        // 45 * 15 = 675, else 3 * 9 = 27: 675 of 810.
        Due.is("17: two", x.likely(0, 4, 0), 5);
        Due.is("17: two", x.likely(0, 4, 1), 6);
        Due.bytes(x, 0, 2, 4, 2, 3);
        Due.is("17: none can be", x.likely(0, 4, 0), 0);
        Due.is("17: none can be", x.likely(0, 4, 1), 1);
        Due.bytes(x, 0, 2, 4);
        Due.is("17: surely", x.likely(0, 4, 0), 1);
        Due.is("17: surely", x.likely(0, 4, 1), 1);
        Due.is("17: surely not", x.likely(0, 3, 0), 0);
        Due.is("17: surely not", x.likely(0, 3, 1), 1);
        Due.bytes(x, 0);
        Due.is("17: nothing said", x.likely(0, 3, 1), 6);
        Due.bytes(x, 0, 0, 4, 3, 4, 0, 4);
        Due.is("17: it ends with no citizen", x.likely(0, 4, 1), 4);
        Due.bytes(x, 0, 0, 4, 0, 6, 0, 4);
        Due.is("17: it ends with no weather", x.likely(0, 4, 1), 4);
        Due.bytes(x, 0, 0, 4, 0);
        Due.is("17: it lacks", x.likely(0, 4, 1), 4);
        Due.bytes(x, 0, 0, 4, 0, 4, 0, 4, 0, 4, 0, 4, 0, 4, 0, 4, 0, 4, 2, 1);
        // 15 to the 8th, and five others of 1, both by 5.
        Due.is("17: eight at most", x.likely(0, 4, 0), 512578125L);
        Due.is("17: eight at most", x.likely(0, 4, 1), 512578126L);
    }

    private static void lying() {
        TwoAgree x = Due.island(0, 1);
        Due.bytes(x, 0, 0, 4, 1, 4, 0, 2, 1, 2, 0, 5);
        Due.is("18: how few", x.liars(0, 0), 3);
        Due.is("18: the least of like ones", x.liars(0, 1), 2);
        Due.bytes(x, 0, 0, 4, 1, 4, 9, 1);
        Due.is("18: all say so", x.liars(0, 0), 0);
        Due.is("18: by which", x.liars(0, 1), 4);
        Due.bytes(x, 0, 0, 4, 0, 5, 0, 5);
        Due.is("18: each two counts", x.liars(0, 0), 1);
        Due.is("18: each two counts", x.liars(0, 1), 5);
        int[] nine = new int[18];
        nine[17] = 1;
        Due.bytes(x, 0, nine);
        Due.is("18: eight at most", x.liars(0, 0), 0);
    }

    private static void saidWrong() {
        TwoAgree x = Due.island(0);
        long none = Long.MIN_VALUE;
        Due.is("17: nothing", x.likely(0, 0, 0), none);
        Due.is("18: nothing", x.liars(0, 0), -11);
        Due.is("19: nothing", x.days(0, 0), -11);
        Due.is("18: what 2", x.liars(0, 2), BAD);
        Due.is("18: what -1", x.liars(0, -1), BAD);
        Due.is("18: shelf 6", x.liars(6, 0), BAD);
        Due.is("18: shelf -1", x.liars(-1, 0), BAD);
        Due.is("19: what 3", x.days(0, 3), BAD);
        Due.is("19: what -1", x.days(0, -1), BAD);
        Due.is("19: shelf 6", x.days(6, 0), BAD);
        Due.is("19: shelf -1", x.days(-1, 0), BAD);
        x.row(0, 2, 4);
        Due.is("17: ints", x.likely(0, 0, 0), none);
        Due.is("18: ints", x.liars(0, 0), -12);
        Due.is("19: ints", x.days(0, 0), -12);
        x.body(0);
        x.keep(0, 0);
        Due.is("17: a word", x.likely(0, 0, 0), none);
        Due.is("18: a word", x.liars(0, 0), -12);
        Due.is("19: a word", x.days(0, 0), -12);
        x.row(0, 0, 4);
        Due.is("17: shelf 6", x.likely(6, 0, 0), none);
        Due.is("17: shelf -1", x.likely(-1, 0, 0), none);
        Due.is("17: weather 6", x.likely(0, 6, 0), none);
        Due.is("17: weather -1", x.likely(0, -1, 0), none);
        Due.is("17: part 2", x.likely(0, 0, 2), none);
        Due.is("17: part -1", x.likely(0, 0, -1), none);
    }

    private static void goingThrough() {
        TwoAgree x = Due.island(0, 1);
        x.mend(1, 1, 0);
        Due.bytes(x, 0, 0, 5, 5, 1, 2, 3, 5, 6, 5);
        Due.is("19: only at 5 both say it", x.days(0, 0), 3);
        Due.is("19: just 5", x.days(0, 1), 3);
        Due.is("19: 1, 2, 3 are dry", x.days(0, 2), 3);
        x.mend(0, 5, 1);
        Due.is("19: all days", x.days(0, 0), 7);
        Due.is("19: on the lesser", x.days(0, 1), 7);
        Due.is("19: never dry", x.days(0, 2), 0);
        x.citizen(2);
        x.mend(2, 3, 4);
        Due.is("19: just what falls at 0 and 1 alone", x.days(0, 1), 2);
        Due.bytes(x, 0, -1, 1);
        Due.is("19: no day", x.days(0, 0), 0);
        int[] sixty = new int[60];
        Due.bytes(x, 0, sixty);
        Due.is("19: forty at most", x.days(0, 0), 40);
        Due.is("19: DAY is as it was", x.of(0, 6), 0);
        TwoAgree byDay = Due.island(0, 1);
        Due.law(byDay, "c=0?t;d=98?t;d=99?t;(t+1)%6");
        byDay.mend(0, 6, 96);
        Due.bytes(byDay, 0, 1, 2, 3, 4, 5, 0);
        Due.is("19: from day 98 on, 99 stays", byDay.days(0, 0), 4);
        Due.is("19: days 96, 97", byDay.days(0, 2), 2);
        byDay.mend(0, 6, 98);
        Due.is("19: the first day is today", byDay.days(0, 2), 0);
    }

    private static void judging() {
        TwoAgree x = Due.island(0, 1);
        Due.bytes(x, 2, 0, 3, 5);
        Due.bytes(x, 4, 1, 8, 32);
        Due.is("20: all is so", x.judge(24), NOT);
        Due.bytes(x, 4, 1, 8);
        Due.is("20: less than days", x.judge(24), NOT);
        Due.bytes(x, 4, 1, 8, 32, 0);
        Due.is("20: more than days", x.judge(24), 3);
        Due.bytes(x, 4, 1, 9, 33);
        Due.is("20: the first", x.judge(24), 1);
        Due.bytes(x, 4, 64);
        Due.is("20: no bits", x.judge(24), 0);
        Due.bytes(x, 4, -1);
        Due.is("20: no bits", x.judge(24), 0);
        int[] wrong = {-1, -24, 6, 60, 26, 100, Integer.MAX_VALUE, Integer.MIN_VALUE};
        for (int ss : wrong) {
            Due.is("20: " + ss, x.judge(ss), BAD);
            Due.is("21: " + ss, x.fits(ss, 0, 0), BAD);
        }
        x.row(0, 1, 2);
        Due.is("20: DAYS of shorts, the other missing", x.judge(1), -12);
        Due.is("20: DAYS missing, the other of shorts", x.judge(10), -11);
        Due.is("20: the other missing", x.judge(21), -11);
        Due.is("20: the other of shorts", x.judge(20), -12);
        Due.is("21: DAYS first", x.fits(1, 0, 0), -12);
        Due.is("21: DAYS missing", x.fits(10, 0, 0), -11);
        Due.is("21: the other missing", x.fits(21, 0, 0), -11);
        Due.is("21: the other of shorts", x.fits(20, 0, 0), -12);
        Due.is("21: no such citizen", x.fits(10, 2, 0), BAD);
        Due.is("21: no such citizen", x.fits(10, -1, 0), BAD);
        Due.is("21: what 3", x.fits(10, 0, 3), BAD);
        Due.is("21: what -1", x.fits(10, 0, -1), BAD);
    }

    private static void fitting() {
        TwoAgree x = Due.island(3, 5);
        Due.bytes(x, 0, 2, 4);
        Due.bytes(x, 1, 4, 16);
        Due.is("21: eyes 6 to 12", x.fits(1, 1, 0), 7);
        Due.is("21: the least", x.fits(1, 1, 1), 6);
        Due.is("21: any kin but 3", x.fits(1, 1, 2), 255 - 8);
        Due.bytes(x, 1, 0, 0);
        Due.is("21: eyes 0 to 5", x.fits(1, 1, 0), 6);
        Due.is("21: the least", x.fits(1, 1, 1), 0);
        Due.is("21: kin 3", x.fits(1, 1, 2), 8);
        Due.bytes(x, 1, 1);
        Due.is("21: none", x.fits(1, 1, 0), 0);
        Due.is("21: none", x.fits(1, 1, 1), NOT);
        Due.is("21: none", x.fits(1, 1, 2), 0);
        Due.bytes(x, 1, 4, 16, 0);
        Due.is("21: more than days", x.fits(1, 1, 0), 0);
        Due.bytes(x, 1);
        Due.is("21: nothing told", x.fits(1, 1, 0), 13);
        Due.is("21: nothing told", x.fits(1, 1, 2), 255);
        Due.is("21: eye as it was", x.of(1, 1), 9);
        Due.is("21: kin as it was", x.of(1, 0), 5);
        x.paid(1, 4);
        Due.bytes(x, 1, 0, 16);
        Due.is("21: bought, whichever eye", x.fits(1, 1, 0), 13);
        Due.is("21: bought, any kin but 3", x.fits(1, 1, 2), 247);
    }

    private static void fittingByDay() {
        TwoAgree x = Due.island(0, 1);
        Due.law(x, "c=0?t;e=d?t;k=4?t;t+1");
        x.mend(0, 6, 99);
        Due.bytes(x, 0, 1, 2);
        Due.bytes(x, 1, 2, 4);
        Due.is("21: no eye is 99", x.fits(1, 1, 0), 0);
        Due.is("21: kin 4 sees", x.fits(1, 1, 2), 16);
        x.mend(0, 6, 7);
        Due.bytes(x, 1, 2, 0);
        Due.is("21: eye 7 today alone", x.fits(1, 1, 1), 7);
        Due.bytes(x, 1, 0, 4);
        Due.is("21: eye 8 tomorrow", x.fits(1, 1, 1), 8);
    }

    private static void buying() {
        TwoAgree x = Due.island(0, 1, 2);
        x.mend(0, 2, 30);
        x.mend(1, 2, 20);
        x.mend(2, 2, 10);
        Due.is("22: it happens anyway", x.byTurns(0, 1, 0), 100);
        Due.is("22: nobody", x.byTurns(0, 1, 1), 10);
        // One bought by the other party leaves two who agree.
        Due.is("22: the other one can do nothing", x.byTurns(0, 2, 0), 100);
        x.mend(2, 3, 4);
        // Now the other one buys 1 (20) or 0 (30), unless the first one guards; guarding one is not enough.
        Due.is("22: the other one pays 20", x.byTurns(0, 2, 0), 20);
        Due.is("22: nobody is bought in vain", x.byTurns(0, 2, 1), 10);
        // The third turn: the first one buys back nobody twice, so he cannot mend it, but 4 is for sale no more.
        Due.is("22: three turns", x.byTurns(0, 3, 0), 20);
        Due.is("22: 4 of one for sale, one bought: it costs the cheapest", x.byTurns(4, 1, 0), 80);
        Due.is("22: he buys 1", x.byTurns(4, 1, 1), 1);
        x.mend(2, 3, -1);
        Due.is("22: 3 by two of his own", x.byTurns(3, 3, 0), 70);
        Due.is("22: the cheapest first, lest the other one buys him", x.byTurns(3, 3, 1), 2);
        x.mend(0, 2, 10);
        x.mend(1, 2, 10);
        Due.is("22: of like ones the least", x.byTurns(3, 3, 1), 0);
        x.mend(0, 2, 0);
        Due.is("22: of like ones nobody first", x.byTurns(0, 1, 1), 10);
        Due.is("22: nobody is bought in deed", x.of(1, 3), -1);
        Due.is("22: weather 6", x.byTurns(6, 1, 0), VOID);
        Due.is("22: weather -1", x.byTurns(-1, 1, 0), VOID);
        Due.is("22: n 0", x.byTurns(0, 0, 0), VOID);
        Due.is("22: n 5", x.byTurns(0, 5, 0), VOID);
        Due.is("22: what 2", x.byTurns(0, 1, 2), VOID);
        Due.is("22: what -1", x.byTurns(0, 1, -1), VOID);
        // The other one's say 0 behind 5: with WIDE 0 they take one away from 5.
        TwoAgree five = Due.island(0, 1);
        five.mend(0, 4, 5);
        five.mend(0, 5, 2);
        Due.is("22: behind 5 comes 0", five.byTurns(5, 2, 0), 10);
        five.mend(0, 4, 4);
        Due.is("22: 5 is within reach of 4", five.byTurns(4, 2, 0), 100);
    }

    private static void drawing() {
        TwoAgree x = Due.island(0, 1, 2);
        int days = 0;
        for (int w = 0; w < 6; w++) {
            days += x.drawn(77, 3040, w);
        }
        Due.is("23: two of three always agree", days, 1200);
        Due.is("23: never nothing", x.drawn(77, 3040, 6), 0);
        // z = 12345: 12345 >>> 8 is 48: 0 falls.
        Due.is("23: seed 0, the first day", x.drawn(0, 101, 0), 1);
        Due.is("23: seed 0, the first day", x.drawn(0, 101, 1), 0);
        TwoAgree two = Due.island(0, 1);
        Due.is("23: one of two is away", two.drawn(5, 240, 6), 80);
        TwoAgree byDay = Due.island(0, 1, 2);
        Due.law(byDay, "d<30?c*2;d=99?3;1");
        Due.is("23: each year's first thirty days are dry", byDay.drawn(9, 3040, 6), 900);
        Due.is("23: then ten of 1", byDay.drawn(9, 3040, 1), 300);
        Due.is("23: days are of the years", byDay.drawn(9, 4 * 100 + 31, 1), 4);
        byDay.mend(0, 6, 20);
        Due.is("23: each year begins now", byDay.drawn(9, 320, 6), 30);
        byDay.mend(0, 6, 90);
        Due.is("23: 99 stays", byDay.drawn(9, 3040, 3), 930);
        Due.is("23: nine days ahead of it", byDay.drawn(9, 3040, 1), 270);
        // By seed 4 the years' only days have 5, 2, 4 and 2 falling.
        TwoAgree drawnOn = Due.island(0, 1, 2);
        int[] falling = {0, 0, 2, 0, 1, 1, 0};
        for (int w = 0; w < falling.length; w++) {
            Due.is("23: z goes on over the years", drawnOn.drawn(4, 401, w), falling[w]);
        }
        byDay.mend(0, 6, 40);
        Due.law(byDay, "d<50?c*2;1");
        Due.is("23: from now", byDay.drawn(9, 120, 6), 10);
        Due.is("23: DAY is as it was", byDay.of(0, 6), 40);
        int[] wrong = {0, 1, 40, 100, 141, 3141, 3101, 3100, -101, -1, Integer.MIN_VALUE, Integer.MAX_VALUE};
        for (int nm : wrong) {
            Due.is("23: " + nm, x.drawn(0, nm, 0), BAD);
        }
        Due.is("23: weather 7", x.drawn(0, 101, 7), BAD);
        Due.is("23: weather -1", x.drawn(0, 101, -1), BAD);
        Due.is("23: nobody", new TwoAgree().drawn(1, 3040, 6), 1200);
        Due.is("23: one alone", Due.island(4).drawn(1, 3040, 6), 1200);
    }
}
