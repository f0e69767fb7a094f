/** Promises 1 to 5 and 8: a new object, citizen, citizens, mend, of, says. */
public final class CitizensTest {
    private static final int BAD = -1, FULL = -3, VOID = -2000000000;

    public static void main(String[] args) {
        newObject();
        citizenComes();
        citizensFromRow();
        citizensEnd();
        mending();
        mendingWrong();
        saysWithoutText();
        Due.end("CitizensTest");
    }

    private static void newObject() {
        TwoAgree x = new TwoAgree();
        for (int what = 0; what < 6; what++) {
            Due.is("1: count " + what, x.count(what), 0);
        }
        for (int what = 0; what < 5; what++) {
            Due.is("1: led " + what, x.led(what), 0);
        }
        for (int what = 4; what < 7; what++) {
            Due.is("1: of 0 " + what, x.of(0, what), 0);
        }
        for (int shelf = 0; shelf < 6; shelf++) {
            Due.is("1: shelf holds nothing", x.taken(shelf, 0), -11);
        }
        Due.is("1: no image", x.back(), -5);
        Due.is("1: nothing to undo", x.undo(), -5);
        Due.is("1: nothing to redo", x.redo(), -5);
        Due.is("1: no trace", x.trace(0), BAD);
    }

    private static void citizenComes() {
        TwoAgree x = new TwoAgree();
        Due.is("2: kin 8", x.citizen(8), BAD);
        Due.is("2: kin -1", x.citizen(-1), BAD);
        for (int i = 0; i < 10; i++) {
            Due.is("2: citizen", x.citizen(7 - i % 8), i);
        }
        Due.is("2: full", x.citizen(0), FULL);
        Due.is("2: BAD is named first", x.citizen(8), BAD);
        Due.is("2: kin", x.of(9, 0), 6);
        Due.is("2: eye", x.of(9, 1), 9);
        Due.is("2: price", x.of(9, 2), 10);
        Due.is("2: bought", x.of(9, 3), -1);
        Due.is("2: how many", x.count(0), 10);
    }

    private static void citizensFromRow() {
        TwoAgree x = new TwoAgree();
        Due.bytes(x, 2, 50, 7, 12, 99, 0, 0, 0, 3, 4, 5);
        Due.is("3: two", x.citizens(2, 1, 2), 2);
        Due.is("3: kin", x.of(0, 0), 7);
        Due.is("3: eye", x.of(0, 1), 12);
        Due.is("3: price", x.of(0, 2), 99);
        Due.is("3: bought", x.of(0, 3), -1);
        Due.is("3: second", x.of(1, 1), 0);
        Due.is("3: to the row's end", x.citizens(2, 7, 10), 1);
        Due.is("3: third", x.of(2, 2), 5);
        Due.is("3: no change to be undone", x.count(3), 0);
    }

    private static void citizensEnd() {
        TwoAgree x = new TwoAgree();
        Due.is("3: missing", x.citizens(0, 0, 1), 0);
        Due.is("3: shelf 6", x.citizens(6, 0, 1), BAD);
        Due.is("3: shelf -1", x.citizens(-1, 0, 1), BAD);
        Due.is("3: n 0", x.citizens(0, 0, 0), BAD);
        Due.is("3: n 11", x.citizens(0, 0, 11), BAD);
        Due.is("3: a word", x.body(0), 0);
        x.keep(0, 0);
        Due.is("3: a word is no row", x.citizens(0, 0, 1), -12);
        Due.is("3: BAD first", x.citizens(0, 0, 0), BAD);
        x.row(0, 1, 6);
        Due.is("3: shorts", x.citizens(0, 0, 1), -12);
        Due.bytes(x, 1, 1, 2, 3, 4, 5);
        Due.is("3: below 0", x.citizens(1, -1, 1), 0);
        Due.is("3: far below", x.citizens(1, Integer.MIN_VALUE, 1), 0);
        Due.is("3: far above", x.citizens(1, Integer.MAX_VALUE, 1), 0);
        Due.is("3: at the end", x.citizens(1, 5, 1), 0);
        Due.is("3: within a three", x.citizens(1, 0, 2), 1);
        Due.bytes(x, 1, 1, 2, 3, 8, 1, 1);
        Due.is("3: no such kin", x.citizens(1, 0, 2), 1);
        Due.bytes(x, 1, 1, 2, 3, 1, 13, 1);
        Due.is("3: no such eye", x.citizens(1, 0, 2), 1);
        Due.bytes(x, 1, 1, 2, 3, 1, 1, 100);
        Due.is("3: no such price", x.citizens(1, 0, 2), 1);
        Due.bytes(x, 1, 1, 2, 3, -1, 1, 1);
        Due.is("3: a byte below 0", x.citizens(1, 0, 2), 1);
        Due.is("3: so far", x.count(0), 5);
        x.row(3, 0, 60);
        Due.is("3: till full", x.citizens(3, 0, 10), 5);
        Due.is("3: full already", x.citizens(3, 0, 1), 0);
        Due.is("3: ten", x.count(0), 10);
    }

    private static void mending() {
        TwoAgree x = Due.island(4, 4);
        int[] most = {7, 12, 99, 5, 5, 2, 99};
        int[] least = {0, 0, 0, -1, 0, 0, 0};
        int[] first = {4, 9, 10, -1, 0, 0, 0};
        for (int what = 0; what < 7; what++) {
            int number = what < 4 ? 1 : 0;
            Due.is("5: first " + what, x.of(number, what), first[what]);
            Due.is("4: to the most", x.mend(number, what, most[what]), first[what]);
            Due.is("5: the most", x.of(number, what), most[what]);
            Due.is("4: above", x.mend(number, what, most[what] + 1), VOID);
            Due.is("4: to the least", x.mend(number, what, least[what]), most[what]);
            Due.is("4: below", x.mend(number, what, least[what] - 1), VOID);
            Due.is("5: the least", x.of(number, what), least[what]);
        }
        for (int what = 0; what < 4; what++) {
            Due.is("4: the other one is as he was", x.of(0, what), first[what]);
        }
    }

    private static void mendingWrong() {
        TwoAgree x = Due.island(4);
        for (int what = 0; what < 4; what++) {
            Due.is("4: no such citizen", x.mend(1, what, 0), VOID);
            Due.is("4: no such citizen", x.mend(-1, what, 0), VOID);
            Due.is("5: no such citizen", x.of(1, what), VOID);
            Due.is("5: no such citizen", x.of(-1, what), VOID);
        }
        for (int what = 4; what < 7; what++) {
            Due.is("4: number 0 for these", x.mend(1, what, 0), VOID);
            Due.is("5: number 0 for these", x.of(1, what), VOID);
            Due.is("5: number 0 for these", x.of(-1, what), VOID);
        }
        Due.is("4: what 7", x.mend(0, 7, 0), VOID);
        Due.is("4: what -1", x.mend(0, -1, 0), VOID);
        Due.is("5: what 7", x.of(0, 7), VOID);
        Due.is("5: what -1", x.of(0, -1), VOID);
        Due.is("4: nothing was changed", x.count(3), 0);
    }

    private static void saysWithoutText() {
        TwoAgree x = Due.island(0, 1, 2);
        x.mend(0, 1, 6);
        x.mend(1, 1, 5);
        x.mend(2, 3, 1);
        for (int t = 0; t < 6; t++) {
            x.mend(0, 4, t);
            Due.is("8: eye 6 sees it", x.says(0), t);
            Due.is("8: eye 5 says one more", x.says(1), Math.min(5, t + 1));
            Due.is("8: bought", x.says(2), 1);
        }
        Due.is("8: nobody", x.says(3), BAD);
        Due.is("8: nobody", x.says(-1), BAD);
    }
}
