/** Islands in four states, on which what is refused must change nothing. */
final class Islands {
    private Islands() {
    }

    static final Twins FRESH = new Twins("fresh", x -> { });
    static final Twins LIVED = new Twins("lived", Islands::lived);
    static final Twins CROWDED = new Twins("crowded", Islands::crowded);
    static final Twins WORDY = new Twins("wordy", Islands::wordy);
    static final Twins[] ALL = {FRESH, LIVED, CROWDED, WORDY};

    static void feed(TwoAgree x, String text) {
        for (int i = 0; i < text.length(); i++) {
            x.feed(text.charAt(i));
        }
    }

    /**
     * Five citizens (0 and 1 are before the clerk), a law, an image, seven changes of which two are undone, three
     * bytes on the tape, three bodies. Shelves: a word, bytes, shorts, ints, longs, nothing.
     */
    static void lived(TwoAgree x) {
        int[] kins = {0, 1, 2, 1, 5};
        for (int kin : kins) {
            x.citizen(kin);
        }
        feed(x, "e>5?t;(t+k+d)%6");
        x.law();
        x.mend(1, 1, 3);
        x.mend(2, 2, 25);
        x.mend(3, 3, 4);
        x.mend(0, 5, 1);
        x.mend(0, 4, 2);
        x.paid(4, 1);
        x.claim(0);
        x.claim(2);
        x.image();
        x.claim(4);
        x.marry(52);
        x.ends();
        x.claim(0);
        x.claim(1);
        x.mend(0, 6, 30);
        x.mend(0, 0, 3);
        x.undo();
        x.undo();
        feed(x, "c+1");
        livedShelves(x);
    }

    private static void livedShelves(TwoAgree x) {
        x.body(0);
        x.body(3);
        x.body(7);
        x.keep(0, 1);
        for (int sort = 0; sort < 4; sort++) {
            x.row(sort + 1, sort, 4);
            for (int i = 0; i < 4; i++) {
                x.put(sort + 1, i, i + sort);
            }
        }
        x.act(2, 3, 5);
    }

    /**
     * Ten citizens (all but the last one are before the clerk), forty changes kept of forty-five, none undone, no
     * image. Shelves: 0 to 3 hold bytes (claims, three by threes, nothing, what is no citizen), booleans, a word.
     */
    static void crowded(TwoAgree x) {
        for (int c = 0; c < 10; c++) {
            x.citizen(c % 4);
        }
        for (int day = 1; day <= 45; day++) {
            x.mend(0, 6, day);
        }
        for (int c = 0; c < 9; c++) {
            x.claim(c);
        }
        x.row(0, 0, 3);
        x.row(1, 0, 6);
        x.row(2, 0, 0);
        x.row(3, 0, 1);
        x.put(3, 0, -1);
        x.row(4, 4, 2);
        x.body(4);
        x.keep(5, 0);
    }

    /** Two citizens of one kin, 120 bytes on the tape, fifty bodies, all changes undone, an image; empty shelves. */
    static void wordy(TwoAgree x) {
        x.citizen(3);
        x.citizen(3);
        x.image();
        x.mend(1, 0, 6);
        x.mend(0, 5, 2);
        x.undo();
        x.undo();
        feed(x, "05-t" + "+0".repeat(58));
        for (int body = 0; body < 50; body++) {
            x.body(7 - body % 8);
        }
        x.act(0, 1, 9);
    }
}
