/** Promises 9 to 16: all, saying, claims, happens, pay, payBoth, pairs, strangers. */
public final class AgreeingTest {
    private static final int BAD = -1, NOT = -2;

    public static void main(String[] args) {
        allComing();
        claiming();
        claimsWrong();
        paying();
        payingTwo();
        couples();
        drought();
        alone();
        strange();
        Due.end("AgreeingTest");
    }

    /** Each of a kin, paid to say a weather. */
    private static TwoAgree saying(int wide, int[] kins, int[] said) {
        TwoAgree x = Due.island(kins);
        for (int c = 0; c < said.length; c++) {
            x.mend(c, 3, said[c]);
        }
        x.mend(0, 5, wide);
        return x;
    }

    private static void allComing() {
        TwoAgree x = saying(0, new int[] {0, 0, 1, 2}, new int[] {3, 3, 3, 5});
        Due.is("9: bits", x.all(0), 8);
        Due.is("9: pairs", x.all(1), 2);
        Due.is("9: what 2", x.all(2), BAD);
        Due.is("9: what -1", x.all(-1), BAD);
        Due.is("10: three", x.saying(3), 3);
        Due.is("10: one", x.saying(5), 1);
        Due.is("10: none", x.saying(0), 0);
        Due.is("10: 6", x.saying(6), BAD);
        Due.is("10: -1", x.saying(-1), BAD);
        x.mend(0, 5, 1);
        Due.is("9: 3 and 5 are two apart", x.all(0), 8);
        x.mend(0, 5, 2);
        Due.is("9: on the lesser", x.all(0), 8);
        Due.is("9: pairs with 5", x.all(1), 5);
        x.mend(2, 3, 4);
        Due.is("9: 3-4, 3-5 on 3, 4-5 on 4", x.all(0), 24);
        TwoAgree kin = saying(2, new int[] {6, 6, 6}, new int[] {1, 1, 2});
        Due.is("9: one family", kin.all(0), 0);
        Due.is("9: one family", kin.all(1), 0);
        TwoAgree empty = new TwoAgree();
        Due.is("9: nobody", empty.all(0), 0);
    }

    private static void claiming() {
        TwoAgree x = saying(0, new int[] {0, 0, 1, 2, 3}, new int[] {2, 2, 2, 4, 4});
        Due.bytes(x, 3, 0, 1, 0, 2, 2, 3, 4, 9, 1);
        int[] bits = {0, 0, 0, 0, 4, 4, 4, 20, 20, 20};
        int[] different = {0, 1, 2, 2, 3, 3, 4, 5, 5, 5};
        for (int n = 0; n < 10; n++) {
            Due.is("11: bits of " + n, x.claims(3, n, 0), bits[n]);
            Due.is("11: first of " + n, x.claims(3, n, 1), n < 4 ? NOT : 3);
            Due.is("11: different of " + n, x.claims(3, n, 2), different[n]);
        }
        Due.is("11: forty", x.claims(3, 40, 2), 5);
        Due.is("12: 2", x.happens(3, 2), 4);
        Due.is("12: 4", x.happens(3, 4), 7);
        Due.is("12: 3", x.happens(3, 3), NOT);
        Due.bytes(x, 3, 0, -1, 2);
        Due.is("11: it ends with what is none", x.claims(3, 3, 0), 0);
        Due.is("12: it ends with what is none", x.happens(3, 2), NOT);
        Due.bytes(x, 3, 0, 5, 2);
        Due.is("11: 5 is none here", x.claims(3, 3, 2), 1);
        int[] late = new int[60];
        late[39] = 2;
        Due.bytes(x, 3, late);
        Due.is("11: the fortieth counts", x.claims(3, 40, 1), 39);
        Due.is("12: the fortieth counts", x.happens(3, 2), 40);
        late[39] = 0;
        late[40] = 2;
        Due.bytes(x, 3, late);
        Due.is("12: forty at most", x.happens(3, 2), NOT);
        x.claim(0);
        Due.bytes(x, 3, 2);
        Due.is("11: who is there in deed is not among these", x.claims(3, 1, 0), 0);
        Due.is("11: nobody came by it", x.count(1), 1);
    }

    private static void claimsWrong() {
        TwoAgree x = Due.island(0);
        Due.is("11: shelf 6", x.claims(6, 0, 0), BAD);
        Due.is("11: shelf -1", x.claims(-1, 0, 0), BAD);
        Due.is("11: n 41", x.claims(0, 41, 0), BAD);
        Due.is("11: n -1", x.claims(0, -1, 0), BAD);
        Due.is("11: what 3", x.claims(0, 0, 3), BAD);
        Due.is("11: what -1", x.claims(0, 0, -1), BAD);
        Due.is("11: nothing", x.claims(0, 0, 0), -11);
        Due.is("12: shelf 6", x.happens(6, 0), BAD);
        Due.is("12: weather 6", x.happens(0, 6), BAD);
        Due.is("12: nothing", x.happens(0, 0), -11);
        x.body(0);
        x.keep(0, 0);
        Due.is("11: a word", x.claims(0, 0, 0), -12);
        Due.is("12: a word", x.happens(0, 0), -12);
        for (int sort = 1; sort < 5; sort++) {
            x.row(0, sort, 3);
            Due.is("11: no bytes", x.claims(0, 0, 0), -12);
            Due.is("12: no bytes", x.happens(0, 0), -12);
        }
    }

    private static void paying() {
        TwoAgree x = Due.island(0, 0, 1, 2);
        x.mend(0, 2, 30);
        x.mend(1, 2, 20);
        x.mend(2, 2, 7);
        x.mend(3, 2, 20);
        x.mend(2, 3, 5);
        Due.is("13: all of unlike kin say 0 but 2", x.pay(0, 0), 0);
        Due.is("13: who", x.pay(0, 1), 3);
        Due.is("13: 5: one says it", x.pay(5, 0), 20);
        Due.is("13: of like ones the least", x.pay(5, 1), 12);
        Due.is("13: 4: two are paid", x.pay(4, 0), 27);
        Due.is("13: 4: who", x.pay(4, 1), 12);
        x.mend(0, 5, 2);
        Due.is("13: just it, WIDE or not", x.pay(1, 0), 27);
        Due.is("13: weather 6", x.pay(6, 0), BAD);
        Due.is("13: weather -1", x.pay(-1, 0), BAD);
        Due.is("13: what 2", x.pay(0, 2), BAD);
        Due.is("13: what -1", x.pay(0, -1), BAD);
        TwoAgree kin = Due.island(5, 5, 5);
        Due.is("13: one family", kin.pay(0, 0), NOT);
        Due.is("13: one family", kin.pay(0, 1), NOT);
    }

    private static void payingTwo() {
        TwoAgree x = Due.island(0, 1, 0, 1, 2);
        int[] prices = {5, 6, 7, 8, 1};
        for (int c = 0; c < 5; c++) {
            x.mend(c, 2, prices[c]);
        }
        Due.is("14: 0 is said by all", x.payBoth(2, 0), 6);
        Due.is("14: who for 0", x.payBoth(2, 1), 12);
        Due.is("14: who for 2", x.payBoth(2, 2), 4);
        Due.is("14: the other way", x.payBoth(20, 0), 6);
        Due.is("14: the other way", x.payBoth(20, 1), 4);
        Due.is("14: the other way", x.payBoth(20, 2), 12);
        Due.is("14: both are paid", x.payBoth(34, 0), 19);
        Due.is("14: of like ones the first by the one", x.payBoth(34, 1), 1);
        Due.is("14: then the other", x.payBoth(34, 2), 24);
        int[] wrong = {0, 11, 55, 6, 60, 65, 56, -1, -12, 100, Integer.MIN_VALUE, Integer.MAX_VALUE};
        for (int ww : wrong) {
            Due.is("14: " + ww, x.payBoth(ww, 0), BAD);
        }
        Due.is("14: what 3", x.payBoth(1, 3), BAD);
        Due.is("14: what -1", x.payBoth(1, -1), BAD);
        TwoAgree three = Due.island(0, 1, 2);
        Due.is("14: nobody for both", three.payBoth(1, 0), NOT);
        TwoAgree lone = Due.island(0, 0, 0, 1);
        Due.is("14: one alone of the other kin", lone.payBoth(1, 2), NOT);
    }

    private static void couples() {
        // A path 0-1-2-3 by what they say: the greedy pair 1-2 would leave both ends alone.
        TwoAgree x = saying(1, new int[] {0, 1, 2, 3}, new int[] {0, 1, 2, 3});
        Due.is("15: a path of four", x.pairs(0), 2);
        TwoAgree star = saying(0, new int[] {0, 0, 0, 0, 1}, new int[] {1, 1, 1, 1, 1});
        Due.is("15: one for four", star.pairs(0), 1);
        TwoAgree ten = Due.island(0, 1, 2, 3, 4, 5, 6, 7, 0, 1);
        Due.is("15: ten", ten.pairs(0), 5);
        TwoAgree odd = Due.island(0, 1, 2);
        Due.is("15: a triangle", odd.pairs(0), 1);
        Due.is("15: what 3", x.pairs(3), BAD);
        Due.is("15: what -1", x.pairs(-1), BAD);
        Due.is("15: nobody", new TwoAgree().pairs(0), 0);
    }

    private static void drought() {
        TwoAgree x = saying(0, new int[] {0, 1, 2, 3, 4}, new int[] {1, 1, 3, 3, 5});
        Due.is("15: two by two", x.pairs(1), 2);
        x.mend(4, 3, 3);
        Due.is("15: two, and three", x.pairs(1), 3);
        TwoAgree round = saying(0, new int[] {0, 1, 1, 2}, new int[] {1, 1, 4, 4});
        Due.is("15: one kin links both", round.pairs(1), 2);
        Due.is("15: nobody is married by it", round.of(1, 0), 1);
        TwoAgree ring = Due.island(0, 1, 2);
        Due.is("15: a ring of three", ring.pairs(1), 2);
        Due.is("15: none agree", saying(0, new int[] {0, 1}, new int[] {1, 2}).pairs(1), 0);
    }

    private static void alone() {
        TwoAgree x = saying(0, new int[] {0, 1, 2, 3, 4}, new int[] {1, 1, 3, 3, 3});
        Due.is("15: 1 alone", x.pairs(2), 2);
        x.mend(4, 3, 4);
        Due.is("15: 1 and 3", x.pairs(2), 10);
        x.mend(0, 5, 1);
        Due.is("15: 3 by three pairs", x.pairs(2), 2);
    }

    private static void strange() {
        TwoAgree x = saying(0, new int[] {0, 0, 1}, new int[] {2, 2, 3});
        int[] just = {2, 2, 1, 1, 2, 2};
        int[] one = {2, 1, 0, 1, 2, 2};
        int[] two = {1, 1, 0, 1, 2, 2};
        for (int w = 0; w < 6; w++) {
            x.mend(0, 5, 0);
            Due.is("16: wide 0, " + w, x.strangers(w), just[w]);
            x.mend(0, 5, 1);
            Due.is("16: wide 1, " + w, x.strangers(w), one[w]);
            x.mend(0, 5, 2);
            Due.is("16: wide 2, " + w, x.strangers(w), two[w]);
        }
        Due.is("16: 6", x.strangers(6), BAD);
        Due.is("16: -1", x.strangers(-1), BAD);
        Due.is("16: nobody", new TwoAgree().strangers(5), 2);
    }
}
