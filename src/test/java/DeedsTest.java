/** Promises 24 to 32: claim, ends, marry, paid, led, image, back, undo, redo. */
public final class DeedsTest {
    private static final int BAD = -1, STATE = -5;

    public static void main(String[] args) {
        claiming();
        sayingAsTheLaterComes();
        ending();
        marrying();
        paying();
        leading();
        keepingAnImage();
        imageAndThoseWhoCame();
        undoing();
        undoingAndDeeds();
        fortyAtMost();
        Due.end("DeedsTest");
    }

    private static void claiming() {
        TwoAgree x = Due.island(0, 0, 1, 2, 3);
        x.mend(3, 3, 4);
        x.mend(4, 3, 5);
        Due.is("24: the first", x.claim(0), 0);
        Due.is("24: of his kin", x.claim(1), 0);
        Due.is("24: was there", x.claim(1), STATE);
        Due.is("24: by the third", x.claim(2), 1);
        Due.is("24: 4 alone", x.claim(3), 0);
        x.mend(0, 5, 1);
        Due.is("24: 4 and 5", x.claim(4), 16);
        Due.is("24: nobody", x.claim(5), BAD);
        Due.is("24: nobody", x.claim(-1), BAD);
        Due.is("42: before the clerk", x.count(1), 5);
        Due.is("28: claims", x.led(0), 5);
        Due.is("28: happened", x.led(1), 2);
        x.ends();
        Due.is("24: a new day", x.claim(2), 0);
        Due.is("24: it happens anew", x.claim(0), 1);
        Due.is("24: it had today", x.claim(1), 0);
        Due.is("28: once a day", x.led(1), 3);
        TwoAgree several = Due.island(0, 1, 2);
        several.mend(0, 3, 1);
        several.mend(1, 3, 3);
        several.mend(2, 3, 2);
        several.mend(0, 5, 1);
        Due.is("24: none", several.claim(0), 0);
        Due.is("24: two apart", several.claim(1), 0);
        Due.is("24: two by one", several.claim(2), 6);
        Due.is("28: two", several.led(1), 2);
    }

    private static void sayingAsTheLaterComes() {
        TwoAgree x = Due.island(0, 1, 2, 3);
        Due.is("24: 0 says 0", x.claim(0), 0);
        x.mend(0, 4, 3);
        Due.is("24: both say 3 now", x.claim(1), 8);
        x.mend(0, 4, 5);
        Due.is("24: the two there do not agree anew, but with him", x.claim(2), 32);
        x.marry(3);
        x.marry(1);
        x.marry(2);
        x.mend(0, 4, 1);
        Due.is("24: all are related now", x.claim(3), 0);
        Due.is("28: happened", x.led(1), 2);
    }

    private static void ending() {
        TwoAgree x = Due.island(0, 1);
        x.claim(0);
        Due.is("25: day 1", x.ends(), 1);
        Due.is("25: nobody is there", x.count(1), 0);
        Due.is("25: DAY", x.of(0, 6), 1);
        x.mend(0, 6, 98);
        Due.is("25: day 99", x.ends(), 99);
        Due.is("25: 99 stays", x.ends(), 99);
        Due.is("28: days", x.led(4), 3);
        Due.is("25: he may come again", x.claim(0), 0);
    }

    private static void marrying() {
        TwoAgree x = Due.island(5, 2, 5, 7, 2);
        Due.is("26: 5 and 2", x.marry(52), 4);
        Due.is("26: the lesser", x.of(0, 0), 2);
        Due.is("26: the lesser", x.of(2, 0), 2);
        Due.is("26: not 7", x.of(3, 0), 7);
        Due.is("26: 2 and 7", x.marry(27), 5);
        Due.is("26: nobody of these", x.marry(34), 0);
        Due.is("28: marriages", x.led(2), 3);
        int[] wrong = {0, 11, 77, 8, 80, 78, 87, 100, -1, -12, Integer.MIN_VALUE, Integer.MAX_VALUE};
        for (int kk : wrong) {
            Due.is("26: " + kk, x.marry(kk), BAD);
        }
        Due.is("28: marriages", x.led(2), 3);
        Due.is("26: no change", x.count(3), 0);
    }

    private static void paying() {
        TwoAgree x = Due.island(0, 1);
        x.mend(1, 2, 33);
        Due.is("27: his price", x.paid(1, 4), 33);
        Due.is("27: he says it", x.says(1), 4);
        Due.is("27: bought", x.of(1, 3), 4);
        Due.is("27: again", x.paid(1, 2), 33);
        Due.is("27: he says that", x.says(1), 2);
        Due.is("28: together", x.led(3), 66);
        Due.is("27: nothing any more", x.paid(1, 6), 0);
        Due.is("27: not bought", x.of(1, 3), -1);
        Due.is("28: together", x.led(3), 66);
        Due.is("27: nobody", x.paid(2, 0), BAD);
        Due.is("27: nobody", x.paid(-1, 0), BAD);
        Due.is("27: 7", x.paid(0, 7), BAD);
        Due.is("27: -1", x.paid(0, -1), BAD);
        Due.is("27: no change but the price", x.count(3), 1);
    }

    private static void leading() {
        TwoAgree x = Due.island(0, 1);
        Due.is("28: 5", x.led(5), BAD);
        Due.is("28: -1", x.led(-1), BAD);
        x.claim(0);
        x.claim(0);
        x.claim(9);
        Due.is("28: what is refused is not led", x.led(0), 1);
        x.mend(0, 3, 5);
        Due.is("28: what mend() tells is not paid", x.led(3), 0);
    }

    private static void keepingAnImage() {
        TwoAgree x = Due.island(0, 1, 2);
        Due.is("30: none", x.back(), STATE);
        x.ends();
        x.ends();
        x.mend(0, 6, 50);
        x.claim(0);
        x.claim(1);
        x.paid(2, 3);
        Due.is("29: days, not DAY", x.image(), 2);
        x.marry(1);
        x.paid(2, 5);
        x.paid(0, 1);
        x.claim(2);
        x.ends();
        x.mend(1, 1, 4);
        x.mend(1, 2, 77);
        x.mend(0, 4, 3);
        x.mend(0, 5, 1);
        x.mend(0, 0, 7);
        x.mend(0, 3, 2);
        Due.is("30: days", x.back(), 2);
        Due.is("30: kin", x.of(1, 0), 1);
        Due.is("30: kin that was mended", x.of(0, 0), 0);
        Due.is("30: bought", x.of(2, 3), 3);
        Due.is("30: not bought", x.of(0, 3), -1);
        Due.is("30: DAY", x.of(0, 6), 50);
        Due.is("30: before the clerk", x.count(1), 2);
        Due.is("30: he was there", x.claim(1), STATE);
        Due.is("30: claims", x.led(0), 2);
        Due.is("30: happened", x.led(1), 1);
        Due.is("30: marriages", x.led(2), 0);
        Due.is("30: paid", x.led(3), 10);
        Due.is("30: days", x.led(4), 2);
        Due.is("30: eye stays", x.of(1, 1), 4);
        Due.is("30: price stays", x.of(1, 2), 77);
        Due.is("30: falls stays", x.of(0, 4), 3);
        Due.is("30: wide stays", x.of(0, 5), 1);
        Due.is("30: changes stay", x.count(3), 7);
        x.mend(2, 3, 0);
        x.mend(0, 4, 0);
        x.mend(0, 5, 0);
        Due.is("30: 0 had happened today", x.claim(2), 0);
        x.ends();
        Due.is("30: it can be laid back once more", x.back(), 2);
        Due.is("29: a new one", x.image(), 2);
    }

    private static void imageAndThoseWhoCame() {
        TwoAgree x = Due.island(4);
        x.claim(0);
        x.image();
        x.citizen(5);
        x.paid(1, 2);
        x.claim(1);
        x.marry(45);
        Due.is("30: days", x.back(), 0);
        Due.is("30: he stays", x.count(0), 2);
        Due.is("30: as he is", x.of(1, 0), 4);
        Due.is("30: bought as he is", x.of(1, 3), 2);
        Due.is("30: not before the clerk", x.count(1), 1);
        Due.is("30: he may come", x.claim(1), 0);
    }

    private static void undoing() {
        TwoAgree x = Due.island(0);
        x.mend(0, 1, 3);
        x.mend(0, 1, 3);
        Due.is("31: the same number is no change", x.count(3), 1);
        x.mend(0, 1, 5);
        x.mend(0, 4, 2);
        Due.is("31: two more", x.undo(), 2);
        Due.is("31: falls", x.of(0, 4), 0);
        Due.is("31: one more", x.undo(), 1);
        Due.is("31: eye", x.of(0, 1), 3);
        Due.is("32: one more", x.redo(), 1);
        Due.is("32: eye", x.of(0, 1), 5);
        x.mend(0, 1, 5);
        Due.is("32: telling the same number is none", x.redo(), 0);
        Due.is("32: falls", x.of(0, 4), 2);
        Due.is("32: none", x.redo(), STATE);
        Due.is("42: changes", x.count(3), 3);
        x.undo();
        x.mend(0, 2, 1);
        Due.is("32: another came behind", x.redo(), STATE);
        Due.is("31: two more", x.undo(), 2);
        Due.is("31: price", x.of(0, 2), 10);
        Due.is("31: one more", x.undo(), 1);
        Due.is("31: none more", x.undo(), 0);
        Due.is("31: none", x.undo(), STATE);
        Due.is("31: eye", x.of(0, 1), 9);
        x.mend(0, 9, 1);
        Due.is("32: what is refused changes nothing", x.redo(), 2);
    }

    private static void undoingAndDeeds() {
        TwoAgree x = Due.island(5);
        x.mend(0, 0, 6);
        x.mend(0, 3, 2);
        x.mend(0, 6, 9);
        x.marry(61);
        x.paid(0, 4);
        x.ends();
        Due.is("31: deeds are none", x.count(3), 3);
        Due.is("31: DAY", x.undo(), 2);
        Due.is("31: what it was ahead of the change", x.of(0, 6), 0);
        Due.is("31: bought", x.undo(), 1);
        Due.is("31: bought", x.of(0, 3), -1);
        Due.is("31: kin", x.undo(), 0);
        Due.is("31: kin", x.of(0, 0), 5);
        x.ends();
        Due.is("32: a deed is no change behind", x.redo(), 2);
        Due.is("32: kin", x.of(0, 0), 6);
        x.redo();
        x.redo();
        Due.is("32: DAY", x.of(0, 6), 9);
        Due.is("28: days stay led", x.led(4), 2);
    }

    private static void fortyAtMost() {
        TwoAgree x = Due.island(0);
        for (int v = 1; v <= 45; v++) {
            x.mend(0, 6, v);
        }
        Due.is("31: forty", x.count(3), 40);
        for (int left = 39; left >= 0; left--) {
            Due.is("31: undo", x.undo(), left);
            Due.is("31: DAY", x.of(0, 6), left + 5);
        }
        Due.is("31: no more", x.undo(), STATE);
        for (int left = 39; left >= 0; left--) {
            Due.is("32: redo", x.redo(), left);
        }
        Due.is("32: DAY", x.of(0, 6), 45);
    }
}
