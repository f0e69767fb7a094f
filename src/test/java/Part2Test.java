/** The bounds that stand in part 2 of the terms: what would happen now, pay, pairs, strangers. */
public final class Part2Test {
    private static final int NOT = -2;

    public static void main(String[] args) {
        noneToTen();
        whatIsSaidNow();
        firstClaimByWhich();
        nobodyIsThereAhead();
        paySayingNow();
        payLeastAndMost();
        payOfLikeOnes();
        payForUnlikeKinAlone();
        payBothLeastAndMost();
        payBothNobodyForBoth();
        payBothOfLikeOnes();
        payBothEachWay();
        mostPairs();
        noneInTwo();
        fewestMarriages();
        marriagesInAnyOrder();
        marriagesByWhatTheySayNow();
        justOnePair();
        strangersNeeded();
        strangersSayJustSo();
        Due.end("Part2Test");
    }

    /** Citizens of these kins, each bought to say a weather. */
    private static TwoAgree saying(int wide, int[] kins, int... said) {
        TwoAgree x = Due.island(kins);
        for (int c = 0; c < said.length; c++) {
            x.paid(c, said[c]);
        }
        x.mend(0, 5, wide);
        return x;
    }

    // ---- "If all come: which would HAVE HAPPENED; how many pairs AGREE; how many SAY a told one."

    private static void noneToTen() {
        TwoAgree x = new TwoAgree();
        int[] pairs = {0, 0, 1, 3, 6, 10, 15, 21, 28, 35, 43};
        for (int n = 0; n <= 10; n++) {
            Due.is("9: bits of " + n, x.all(0), n < 2 ? 0 : 1);
            Due.is("9: pairs of " + n, x.all(1), pairs[n]);
            Due.is("10: 0 of " + n, x.saying(0), n);
            Due.is("10: 5 of " + n, x.saying(5), 0);
            x.citizen(n % 8);
        }
        x.mend(0, 4, 5);
        Due.is("9: 5 falls", x.all(0), 32);
        Due.is("10: 5 of ten", x.saying(5), 10);
        Due.is("10: 0 of ten", x.saying(0), 0);
        TwoAgree every = saying(1, new int[] {0, 1, 2, 3, 4, 5, 6}, 0, 1, 2, 3, 4, 5, 5);
        Due.is("9: each weather", every.all(0), 63);
    }

    /** "NOW: what one SAYS": no call leans on what an earlier one was told. */
    private static void whatIsSaidNow() {
        int[] due = {8, 1, 2, 8, 1, 2, 0, 0, 8, 0, 100};
        for (int call = 0; call < due.length; call++) {
            TwoAgree x = Due.island(0, 1, 2, 2);
            x.paid(2, 5);
            x.paid(3, 5);
            Due.bytes(x, 0, 0, 1);
            Due.is("9: ahead", x.all(0), 1);
            Due.is("13: ahead", x.pay(0, 0), 0);
            x.mend(0, 4, 3);
            Due.is("now, call " + call, asked(x, call), due[call]);
        }
    }

    private static int asked(TwoAgree x, int call) {
        switch (call) {
            case 0: return x.all(0);
            case 1: return x.all(1);
            case 2: return x.saying(3);
            case 3: return x.claims(0, 2, 0);
            case 4: return x.claims(0, 2, 1);
            case 5: return x.happens(0, 3);
            case 6: return x.pay(3, 0);
            case 7: return x.strangers(3);
            case 8: return x.pairs(2);
            case 9: return x.claim(0) + x.strangers(3);
            default: return x.byTurns(3, 1, 0);
        }
    }

    /** "Of the first n CLAIMS": whoever else is on the island, or before the clerk in deed, is not there yet. */
    private static void nobodyIsThereAhead() {
        for (int there = 0; there < 4; there++) {
            TwoAgree x = Due.island(0, 1, 2, 3);
            x.claim(there);
            for (int first = 0; first < 4; first++) {
                Due.bytes(x, 0, first);
                Due.is("12: one alone", x.happens(0, 0), NOT);
                Due.is("11: one alone", x.claims(0, 1, 0), 0);
                for (int second = 0; second < 4; second++) {
                    Due.bytes(x, 0, first, second);
                    Due.is("12: " + first + ", " + second, x.happens(0, 0), first == second ? NOT : 2);
                    Due.is("11: " + first + ", " + second, x.claims(0, 2, 2), first == second ? 1 : 2);
                }
            }
        }
    }

    /** "the first CLAIM by which one has (NOT)": the second one at the earliest. */
    private static void firstClaimByWhich() {
        TwoAgree x = Due.island(0, 1, 1);
        Due.bytes(x, 0, 0, 1, 2);
        Due.is("11: by none", x.claims(0, 0, 1), NOT);
        Due.is("11: not by the first", x.claims(0, 1, 1), NOT);
        Due.is("11: by the second", x.claims(0, 2, 1), 1);
        Due.is("11: still by the second", x.claims(0, 3, 1), 1);
        Due.is("12: behind two", x.happens(0, 0), 2);
        Due.bytes(x, 0, 1, 2, 0);
        Due.is("11: by the third", x.claims(0, 3, 1), 2);
        Due.is("11: not by two", x.claims(0, 2, 1), NOT);
    }

    // ---- PAY

    /** "one who SAYS it now costs nothing, another one his PRICE" */
    private static void paySayingNow() {
        TwoAgree x = Due.island(0, 1);
        x.mend(0, 2, 99);
        x.mend(1, 2, 98);
        x.mend(0, 4, 3);
        Due.is("13: both say it", x.pay(3, 0), 0);
        Due.is("13: neither", x.pay(2, 0), 197);
        Due.is("13: neither", x.pay(4, 0), 197);
        x.paid(0, 4);
        Due.is("13: 1 alone says 3", x.pay(3, 0), 99);
        Due.is("13: 0 alone says 4", x.pay(4, 0), 98);
        x.mend(0, 5, 2);
        Due.is("13: just it, however WIDE", x.pay(3, 0), 99);
        Due.is("13: just it, however WIDE", x.pay(5, 0), 197);
        for (int w = 0; w < 6; w++) {
            Due.is("13: who", x.pay(w, 1), 1);
        }
    }

    private static void payLeastAndMost() {
        TwoAgree x = Due.island(0, 1, 0);
        for (int c = 0; c < 3; c++) {
            x.mend(c, 2, 99);
        }
        Due.is("13: the most", x.pay(5, 0), 198);
        x.mend(2, 2, 98);
        Due.is("13: one less", x.pay(5, 0), 197);
        Due.is("13: who", x.pay(5, 1), 12);
        x.mend(1, 2, 0);
        x.mend(2, 2, 0);
        Due.is("13: for nothing", x.pay(5, 0), 0);
        Due.is("13: who", x.pay(5, 1), 12);
    }

    /** "of like ones the least" */
    private static void payOfLikeOnes() {
        TwoAgree x = Due.island(0, 0, 0, 0, 0, 0, 0, 0, 1, 0);
        Due.is("13: the first that can be", x.pay(5, 1), 8);
        x.mend(0, 2, 11);
        Due.is("13: the next", x.pay(5, 1), 18);
        x.mend(9, 2, 9);
        Due.is("13: the lesser one ahead", x.pay(5, 1), 89);
        x.mend(8, 0, 0);
        Due.is("13: of one kin", x.pay(5, 1), NOT);
        x.mend(9, 0, 7);
        Due.is("13: the first with 9", x.pay(5, 1), 19);
        x.mend(0, 2, 10);
        Due.is("13: 0 again", x.pay(5, 1), 9);
    }

    private static void payForUnlikeKinAlone() {
        TwoAgree none = new TwoAgree();
        Due.is("13: nobody", none.pay(0, 0), NOT);
        none.citizen(4);
        Due.is("13: one", none.pay(0, 0), NOT);
        Due.is("13: one", none.pay(0, 1), NOT);
        none.citizen(4);
        Due.is("13: two of like KIN", none.pay(0, 0), NOT);
        none.mend(1, 0, 5);
        Due.is("13: two of unlike KIN", none.pay(0, 0), 0);
        none.marry(45);
        Due.is("13: related by marriage", none.pay(0, 0), NOT);
    }

    // ---- PAY BOTH

    private static void payBothLeastAndMost() {
        TwoAgree x = Due.island(0, 1, 0, 1);
        for (int c = 0; c < 4; c++) {
            x.mend(c, 2, 99);
        }
        x.mend(0, 4, 3);
        Due.is("14: the most", x.payBoth(45, 0), 396);
        Due.is("14: two say it", x.payBoth(35, 0), 198);
        x.paid(2, 5);
        Due.is("14: three say what they are to", x.payBoth(35, 0), 99);
        x.paid(3, 5);
        Due.is("14: all say what they are to", x.payBoth(35, 0), 0);
        Due.is("14: who", x.payBoth(35, 1), 1);
        Due.is("14: who for the other", x.payBoth(35, 2), 23);
        Due.is("14: the other way", x.payBoth(53, 0), 0);
        Due.is("14: the other way", x.payBoth(53, 1), 23);
        Due.is("14: the other way", x.payBoth(53, 2), 1);
    }

    /** "each by two of unlike KIN, nobody for both" */
    private static void payBothNobodyForBoth() {
        int[][] cannot = {{}, {0}, {0, 1}, {0, 1, 2}, {0, 0, 0, 1}, {1, 0, 0, 0}, {0, 0, 0, 0}, {0, 0, 0, 0, 1}};
        for (int[] kins : cannot) {
            TwoAgree x = Due.island(kins);
            for (int what = 0; what < 3; what++) {
                Due.is("14: " + kins.length + " who cannot", x.payBoth(1, what), NOT);
            }
        }
        int[][] can = {{0, 1, 2, 3}, {0, 0, 1, 1}, {0, 0, 1, 2}, {0, 1, 1, 0}, {0, 1, 1, 2}, {0, 0, 0, 1, 1}};
        int[] first = {1, 2, 2, 1, 1, 3};
        int[] other = {23, 13, 13, 23, 23, 14};
        for (int i = 0; i < can.length; i++) {
            TwoAgree x = Due.island(can[i]);
            Due.is("14: what it costs", x.payBoth(54, 0), 40);
            Due.is("14: who for the first", x.payBoth(54, 1), first[i]);
            Due.is("14: who for the other", x.payBoth(54, 2), other[i]);
        }
    }

    /** "of like ones the first by the one, then the other" */
    private static void payBothOfLikeOnes() {
        TwoAgree ten = Due.island(0, 1, 2, 3, 4, 5, 6, 7, 0, 1);
        Due.is("14: the first", ten.payBoth(12, 1), 1);
        Due.is("14: then the other", ten.payBoth(12, 2), 23);
        ten.mend(2, 2, 11);
        Due.is("14: without 2", ten.payBoth(12, 2), 34);
        ten.mend(0, 2, 11);
        Due.is("14: without 0", ten.payBoth(12, 1), 13);
        Due.is("14: without 0", ten.payBoth(12, 2), 45);
        for (int c = 0; c < 6; c++) {
            ten.mend(c, 2, 12);
        }
        Due.is("14: the last four", ten.payBoth(12, 1), 67);
        Due.is("14: the last four", ten.payBoth(12, 2), 89);
        ten.mend(9, 2, 9);
        ten.mend(8, 2, 9);
        Due.is("14: the first by the one, though the other costs less", ten.payBoth(12, 1), 67);
    }

    private static void payBothEachWay() {
        for (int one = 0; one < 6; one++) {
            for (int other = 0; other < 6; other++) {
                TwoAgree x = saying(2, new int[] {0, 1, 2, 3}, one, one, other, other);
                int ww = 10 * one + other;
                Due.is("14: " + ww, x.payBoth(ww, 0), one == other ? TwoAgree.BAD : 0);
                Due.is("14: " + ww, x.payBoth(ww, 1), one == other ? TwoAgree.BAD : 1);
                Due.is("14: " + ww, x.payBoth(ww, 2), one == other ? TwoAgree.BAD : 23);
            }
        }
    }

    // ---- "PAIRS: the most pairs of CITIZENS, none in two, who AGREE."

    private static void mostPairs() {
        TwoAgree x = new TwoAgree();
        for (int n = 0; n <= 10; n++) {
            Due.is("15: of " + n, x.pairs(0), n / 2);
            x.citizen(n % 8);
        }
        TwoAgree kin = Due.island(6, 6, 6, 6, 6, 6, 6, 6, 6, 6);
        Due.is("15: ten of one kin", kin.pairs(0), 0);
        for (int c = 0; c < 10; c++) {
            kin.mend(c, 0, 5);
            Due.is("15: " + (c + 1) + " of another kin", kin.pairs(0), Math.min(c + 1, 9 - c));
        }
    }

    /** A chain of ten, each as far from the next as WIDE, is five pairs; one less, four. */
    private static void noneInTwo() {
        int[] kins = {0, 1, 2, 3, 4, 5};
        TwoAgree chain = saying(1, kins, 0, 1, 2, 3, 4, 5);
        Due.is("15: a chain of six", chain.pairs(0), 3);
        chain.paid(0, 5);
        Due.is("15: 1, 2, 3, 4, 5, 5", chain.pairs(0), 3);
        chain.paid(1, 3);
        Due.is("15: 2, 3, 3, 4, 5, 5", chain.pairs(0), 3);
        chain.mend(0, 5, 0);
        Due.is("15: two by two", chain.pairs(0), 2);
        for (int alone = 0; alone < 6; alone++) {
            int[] said = {0, 0, 0, 0, 0, 0};
            said[alone] = 5;
            Due.is("15: " + alone + " has nobody", saying(1, kins, said).pairs(0), 2);
            said[5 - alone] = 3;
            Due.is("15: two of them have nobody", saying(1, kins, said).pairs(0), 2);
        }
        TwoAgree star = saying(1, kins, 2, 1, 3, 3, 3, 3);
        star.mend(2, 0, 3);
        star.mend(4, 0, 3);
        star.mend(5, 0, 3);
        Due.is("15: all but 0 and 1 of one kin: 0 with one of them", star.pairs(0), 1);
        star.mend(0, 5, 2);
        Due.is("15: 0 and 1 each with one of them", star.pairs(0), 2);
    }

    // ---- "DROUGHT: the fewest marriages by which no two AGREE any more"

    private static void fewestMarriages() {
        TwoAgree x = new TwoAgree();
        for (int n = 1; n <= 8; n++) {
            x.citizen(n - 1);
            Due.is("15: " + n + " kins who all agree", x.pairs(1), n - 1);
        }
        x.citizen(0);
        x.citizen(7);
        Due.is("15: all eight kins", x.pairs(1), 7);
        TwoAgree two = saying(0, new int[] {0, 1, 2, 3}, 1, 1, 3, 3);
        Due.is("15: two pairs apart", two.pairs(1), 2);
        two.mend(0, 5, 1);
        Due.is("15: 1 and 3 are two apart", two.pairs(1), 2);
        two.mend(0, 5, 2);
        Due.is("15: all four", two.pairs(1), 3);
        two.mend(2, 0, 0);
        Due.is("15: a kin that says both", two.pairs(1), 2);
        two.mend(3, 0, 1);
        Due.is("15: one marriage ends both", two.pairs(1), 1);
        two.marry(10);
        Due.is("15: no two agree", two.pairs(1), 0);
    }

    /** Whichever kin is named first, one marriage is enough for two kins; and asking again is the same. */
    private static void marriagesInAnyOrder() {
        for (int one = 0; one < 8; one++) {
            for (int other = 0; other < 8; other++) {
                TwoAgree x = Due.island(one, other, other, one);
                int due = one == other ? 0 : 1;
                Due.is("15: " + one + " and " + other, x.pairs(1), due);
                Due.is("15: asked again", x.pairs(1), due);
                Due.is("15: their pairs", x.pairs(0), 2 * due);
                Due.is("15: asked once more", x.pairs(1), due);
            }
        }
        TwoAgree x = Due.island(7, 5, 6, 0, 3, 7, 5, 6, 0, 3);
        for (int c = 0; c < 10; c++) {
            x.paid(c, c < 3 ? 1 : c < 6 ? 3 : 5);
        }
        // On 1: 7, 5, 6; on 3: 0, 3, 7; on 5: 5, 6, 0, 3: all five kins must become one.
        Due.is("15: by way of others", x.pairs(1), 4);
        Due.is("15: asked again", x.pairs(1), 4);
    }

    /** Who marries would say another thing by this law; but what they SAY now counts. */
    private static void marriagesByWhatTheySayNow() {
        TwoAgree x = Due.island(2, 3, 1);
        Due.is("7: by kin", Due.law(x, "k<2?1;4"), 1);
        Due.is("15: 2 and 3 agree", x.pairs(1), 1);
        Due.is("15: on 4", x.pairs(2), 16);
    }

    // ---- "ALONE: on which WEATHERS (bits) just one pair AGREES."

    private static void justOnePair() {
        int[] kins = {0, 1, 0, 1, 0, 1, 0, 1, 0, 1};
        TwoAgree low = saying(0, kins, 0, 0, 1, 1, 2, 2, 3, 3, 4, 4);
        Due.is("15: 0 to 4", low.pairs(2), 31);
        TwoAgree high = saying(0, kins, 5, 5, 1, 1, 2, 2, 3, 3, 4, 4);
        Due.is("15: 1 to 5", high.pairs(2), 62);
        TwoAgree x = saying(0, new int[] {0, 1, 1, 2}, 3, 3, 5, 5);
        Due.is("15: one pair on 3, one on 5", x.pairs(2), 40);
        x.paid(2, 3);
        Due.is("15: two pairs on 3, none on 5", x.pairs(2), 0);
        x.mend(2, 0, 0);
        Due.is("15: of three two are of one kin: two pairs", x.pairs(2), 0);
        x.paid(2, 2);
        Due.is("15: one pair on 3", x.pairs(2), 8);
        x.mend(0, 5, 1);
        Due.is("15: one on 2, for two are of one kin", x.pairs(2), 12);
        x.mend(0, 5, 2);
        Due.is("15: on 3 three pairs", x.pairs(2), 4);
    }

    // ---- "STRANGERS: how many more would have to SAY a told WEATHER just so (0 .. 2)"

    private static void strangersNeeded() {
        for (int wide = 0; wide < 3; wide++) {
            for (int said = 0; said < 6; said++) {
                TwoAgree x = saying(wide, new int[] {0, 0}, said, said);
                for (int w = 0; w < 6; w++) {
                    boolean one = said >= w && said - w <= wide;
                    Due.is("16: " + w + " where one says " + said + ", WIDE " + wide, x.strangers(w), one ? 1 : 2);
                }
                x.mend(1, 0, 1);
                for (int w = 0; w < 6; w++) {
                    int due = w == said ? 0 : said >= w && said - w <= wide ? 1 : 2;
                    Due.is("16: " + w + " where two say " + said + ", WIDE " + wide, x.strangers(w), due);
                }
            }
        }
        TwoAgree none = new TwoAgree();
        for (int w = 0; w < 6; w++) {
            Due.is("16: nobody is there", none.strangers(w), 2);
        }
    }

    private static void strangersSayJustSo() {
        TwoAgree x = saying(2, new int[] {0, 1, 2, 3, 4, 5, 6, 7}, 4, 2, 2, 2, 2, 2, 2, 2);
        Due.is("16: 2 has happened", x.strangers(2), 0);
        Due.is("16: 4 by one more", x.strangers(4), 1);
        Due.is("16: 3 by one more, who has 4 above him", x.strangers(3), 1);
        Due.is("16: 1 by one more", x.strangers(1), 1);
        Due.is("16: 5: 4 is below it", x.strangers(5), 2);
        Due.is("16: eight kins are full, a stranger has one of his own", x.strangers(0), 1);
    }
}
