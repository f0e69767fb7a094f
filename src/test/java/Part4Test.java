/** The bounds that stand in part 4 of the terms: years by draws, deeds, changes, an image. */
public final class Part4Test {
    private static final int STATE = -5, FULL = -3;
    private static final int[] SEEDS = {0, 1, -1, 12345, 1 << 30, Integer.MIN_VALUE, Integer.MAX_VALUE};

    public static void main(String[] args) {
        drawnBySeed();
        drawnDaysInAll();
        drawnOfFew();
        drawnDayGoesOn();
        dayEnds();
        endedDayForgets();
        eachTwoKinsMarry();
        paidForEachWeather();
        ledOnceADay();
        ledInAll();
        fortyChanges();
        changesOfEachNumber();
        latestFirst();
        noChange();
        noOtherCameBehind();
        deedsAreNone();
        noImage();
        imageKeeps();
        imageKeepsNoMore();
        imageOfSomeAndThoseSince();
        imageLeavesChanges();
        Due.end("Part4Test");
    }

    // ---- "DRAWN: n years (1 .. 30) of m days (1 .. 40) from now by a SEED"

    /**
     * Citizens 0 and 1 are of one kin, so nothing happens on days that 2 is away; else what falls. The numbers are
     * drawn here once more: 1103515245 and 12345 are added and multiplied as ints that wrap, ahead of each day.
     */
    private static void drawnBySeed() {
        TwoAgree x = Due.island(0, 0, 1);
        int[] sizes = {101, 102, 140, 201, 1517, 3001, 3040};
        for (int seed : SEEDS) {
            for (int nm : sizes) {
                int[] due = new int[7];
                int z = seed;
                for (int day = 0; day < (nm / 100) * (nm % 100); day++) {
                    z = z * 1103515245 + 12345;
                    int falls = (z >>> 8) % 6;
                    due[(z >>> 16) % 3 == 2 ? 6 : falls]++;
                }
                for (int weather = 0; weather <= 6; weather++) {
                    String what = "23: " + nm + " by " + seed + ", " + weather;
                    Due.is(what, x.drawn(seed, nm, weather), due[weather]);
                }
            }
        }
    }

    /** Four of unlike kin always leave three who say what falls: the weathers' days are all days. */
    private static void drawnDaysInAll() {
        TwoAgree x = Due.island(0, 1, 2, 3);
        for (int n : new int[] {1, 2, 29, 30}) {
            for (int m : new int[] {1, 2, 39, 40}) {
                int days = 0;
                for (int weather = 0; weather < 6; weather++) {
                    days += x.drawn(n + m, 100 * n + m, weather);
                }
                Due.is("23: days of " + n + " years of " + m, days, n * m);
                Due.is("23: none without any", x.drawn(n + m, 100 * n + m, 6), 0);
            }
        }
    }

    /** "all come but the how many-th (nobody: nothing HAS HAPPENED)" */
    private static void drawnOfFew() {
        TwoAgree x = new TwoAgree();
        for (int people = 0; people <= 10; people++) {
            int nothing = people < 3 ? 80 : 0;
            Due.is("23: " + people + " of them", x.drawn(people, 240, 6), nothing);
            x.citizen(people % 8);
        }
        TwoAgree y = Due.island(3, 4);
        y.mend(0, 5, 2);
        for (int weather = 0; weather < 6; weather++) {
            Due.is("23: one of two is away", y.drawn(7, 3040, weather), 0);
        }
    }

    /** "from now", "DAY goes on" (99 stays), and each year begins now. */
    private static void drawnDayGoesOn() {
        TwoAgree x = Due.island(0, 1, 2, 3);
        Due.law(x, "d=99?2;d=98?3;4");
        int[] from = {0, 59, 60, 97, 98, 99};
        int[] on99 = {0, 0, 1, 38, 39, 40};
        int[] on98 = {0, 1, 1, 1, 1, 0};
        for (int i = 0; i < from.length; i++) {
            x.mend(0, 6, from[i]);
            for (int n : new int[] {1, 3, 30}) {
                int nm = 100 * n + 40;
                Due.is("23: days of 99 from " + from[i], x.drawn(1, nm, 2), n * on99[i]);
                Due.is("23: days of 98 from " + from[i], x.drawn(1, nm, 3), n * on98[i]);
                Due.is("23: others from " + from[i], x.drawn(1, nm, 4), n * (40 - on99[i] - on98[i]));
            }
            Due.is("23: DAY stays", x.of(0, 6), from[i]);
        }
        x.mend(0, 6, 97);
        Due.is("23: one day of 97", x.drawn(1, 101, 4), 1);
        Due.is("23: the second is 98", x.drawn(1, 102, 3), 1);
        Due.is("23: the third is 99", x.drawn(1, 103, 2), 1);
    }

    // ---- "the day ends (DAY one more, 99 stays; nobody is before the clerk)"

    private static void dayEnds() {
        TwoAgree x = new TwoAgree();
        for (int day = 1; day <= 105; day++) {
            Due.is("25: the day ends", x.ends(), Math.min(99, day));
            Due.is("28: days", x.led(4), day);
        }
        Due.is("25: DAY", x.of(0, 6), 99);
        x.mend(0, 6, 97);
        Due.is("25: behind 97", x.ends(), 98);
        Due.is("25: behind 98", x.ends(), 99);
        Due.is("25: behind 99", x.ends(), 99);
        Due.is("28: days", x.led(4), 108);
    }

    private static void endedDayForgets() {
        TwoAgree x = Due.island(0, 1);
        for (int day = 1; day <= 3; day++) {
            Due.is("24: the first one", x.claim(0), 0);
            Due.is("24: he was there today", x.claim(0), STATE);
            Due.is("24: by the second one", x.claim(1), 1);
            Due.is("42: before the clerk", x.count(1), 2);
            x.ends();
            Due.is("42: nobody is", x.count(1), 0);
            Due.is("28: claims", x.led(0), 2 * day);
            Due.is("28: happened", x.led(1), day);
        }
    }

    // ---- "two KINS MARRY (all of the greater are of the lesser then)"

    private static void eachTwoKinsMarry() {
        for (int one = 0; one < 8; one++) {
            for (int other = 0; other < 8; other++) {
                TwoAgree x = Due.island(0, 1, 2, 3, 4, 5, 6, 7, one, other);
                int due = one == other ? -1 : 4;
                Due.is("26: " + one + " and " + other, x.marry(10 * one + other), due);
                for (int c = 0; c < 8; c++) {
                    boolean goes = one != other && c == Math.max(one, other);
                    Due.is("26: kin of " + c, x.of(c, 0), goes ? Math.min(one, other) : c);
                }
                Due.is("28: marriages", x.led(2), one == other ? 0 : 1);
            }
        }
        TwoAgree x = Due.island(5);
        Due.is("26: nobody of both", x.marry(34), 0);
        Due.is("26: none of the lesser ahead", x.marry(54), 1);
        Due.is("26: he is of 4", x.of(0, 0), 4);
        Due.is("26: none of the greater", x.marry(47), 1);
        Due.is("28: marriages", x.led(2), 3);
    }

    // ---- "one is PAID to say a WEATHER"

    private static void paidForEachWeather() {
        TwoAgree x = Due.island(0, 1);
        x.mend(1, 2, 99);
        x.mend(0, 2, 0);
        for (int w = 0; w < 6; w++) {
            Due.is("27: for " + w, x.paid(1, w), 99);
            Due.is("27: he says it", x.says(1), w);
            Due.is("27: for nothing", x.paid(0, w), 0);
            Due.is("28: PRICES together", x.led(3), 99 * (w + 1));
        }
        Due.is("27: nothing any more", x.paid(1, 6), 0);
        Due.is("27: BOUGHT", x.of(1, 3), -1);
        Due.is("27: he says what falls", x.says(1), 0);
        Due.is("28: it stays led", x.led(3), 594);
        Due.is("27: the other one is still", x.of(0, 3), 5);
    }

    // ---- "LED: CLAIMS, what HAPPENED (each WEATHER once a day), marriages, paid, days."

    private static void ledOnceADay() {
        TwoAgree x = Due.island(0, 1, 2, 3, 4, 5, 6);
        int[] said = {0, 1, 2, 3, 4, 5, 5};
        int[] bits = {0, 1, 2, 4, 8, 16, 32};
        x.mend(0, 5, 1);
        for (int c = 0; c < 7; c++) {
            x.paid(c, said[c]);
        }
        for (int day = 1; day <= 2; day++) {
            for (int c = 0; c < 7; c++) {
                Due.is("24: by " + c, x.claim(c), bits[c]);
            }
            Due.is("28: each of six", x.led(1), 6 * day);
            x.citizen(7);
            x.paid(6 + day, 4);
            Due.is("24: 4 had happened today", x.claim(6 + day), 0);
            Due.is("28: once a day", x.led(1), 6 * day);
            x.ends();
        }
    }

    private static void ledInAll() {
        TwoAgree x = Due.island(0, 1);
        for (int i = 1; i <= 60; i++) {
            x.claim(i % 2);
            x.marry(i % 2 == 0 ? 67 : 76);
            x.paid(0, 3);
            x.ends();
            int[] due = {i, 0, i, 10 * i, i};
            for (int what = 0; what < 5; what++) {
                Due.is("28: " + what + " of " + i, x.led(what), due[what]);
            }
        }
    }

    // ---- "CHANGES can be UNDONE, the latest first, and DONE AGAIN; 40 at most are kept"

    private static void fortyChanges() {
        for (int many = 38; many <= 42; many++) {
            TwoAgree x = new TwoAgree();
            for (int v = 1; v <= many; v++) {
                x.mend(0, 6, v);
            }
            int kept = Math.min(40, many);
            Due.is("42: kept of " + many, x.count(3), kept);
            for (int left = kept - 1; left >= 0; left--) {
                Due.is("31: how many may still be", x.undo(), left);
            }
            Due.is("31: none more", x.undo(), STATE);
            Due.is("31: as far back as forty", x.of(0, 6), many - kept);
            for (int left = kept - 1; left >= 0; left--) {
                Due.is("32: how many may still be", x.redo(), left);
            }
            Due.is("32: none more", x.redo(), STATE);
            Due.is("32: all again", x.of(0, 6), many);
            x.undo();
            x.mend(0, 6, 77);
            Due.is("42: one in the place of another", x.count(3), kept);
            x.mend(0, 6, 78);
            Due.is("42: one more", x.count(3), Math.min(40, kept + 1));
        }
    }

    /** "all numbers of mend()" */
    private static void changesOfEachNumber() {
        TwoAgree x = Due.island(0, 4);
        int[] first = {4, 9, 10, -1, 0, 0, 0};
        int[] to = {7, 12, 99, 5, 5, 2, 99};
        for (int what = 0; what < 7; what++) {
            Due.is("4: what it was", x.mend(what < 4 ? 1 : 0, what, to[what]), first[what]);
            Due.is("42: a change", x.count(3), what + 1);
        }
        for (int what = 6; what >= 0; what--) {
            Due.is("31: the latest first", x.undo(), what);
            Due.is("31: as it was", x.of(what < 4 ? 1 : 0, what), first[what]);
        }
        for (int what = 0; what < 7; what++) {
            Due.is("32: the earliest first", x.redo(), 6 - what);
            Due.is("32: again", x.of(what < 4 ? 1 : 0, what), to[what]);
        }
    }

    /** Fifty changes, each of another number or citizen than the one ahead; the latest forty are kept, in order. */
    private static void latestFirst() {
        TwoAgree x = Due.island(0, 1, 2);
        int[] numbers = new int[50];
        int[] whats = new int[50];
        int[] was = new int[50];
        int[] is = new int[50];
        for (int i = 0; i < 50; i++) {
            whats[i] = i * 3 % 7;
            numbers[i] = whats[i] < 4 ? i % 3 : 0;
            was[i] = x.of(numbers[i], whats[i]);
            is[i] = (was[i] + 1 + i % 2) % (whats[i] == 5 ? 3 : 5);
            Due.is("4: what it was", x.mend(numbers[i], whats[i], is[i]), was[i]);
        }
        for (int i = 49; i >= 10; i--) {
            Due.is("31: is so ahead of it", x.of(numbers[i], whats[i]), is[i]);
            Due.is("31: how many may still be", x.undo(), i - 10);
            Due.is("31: change " + i, x.of(numbers[i], whats[i]), was[i]);
        }
        Due.is("31: none more", x.undo(), STATE);
        for (int i = 10; i < 50; i++) {
            Due.is("32: how many may still be", x.redo(), 49 - i);
            Due.is("32: change " + i, x.of(numbers[i], whats[i]), is[i]);
        }
        Due.is("32: none more", x.redo(), STATE);
    }

    /** "telling the same number is none" */
    private static void noChange() {
        TwoAgree x = Due.island(4);
        int[] first = {4, 9, 10, -1, 0, 0, 0};
        for (int what = 0; what < 7; what++) {
            Due.is("4: the same", x.mend(0, what, first[what]), first[what]);
        }
        Due.is("42: none", x.count(3), 0);
        Due.is("31: none", x.undo(), STATE);
        x.mend(0, 5, 1);
        x.mend(0, 5, 0);
        Due.is("42: to another one and back are two", x.count(3), 2);
    }

    /** "as long as no other came behind" */
    private static void noOtherCameBehind() {
        TwoAgree x = Due.island(4);
        x.mend(0, 0, 5);
        x.mend(0, 1, 3);
        x.undo();
        x.undo();
        x.mend(0, 0, 4);
        x.mend(0, 0, 8);
        x.mend(9, 0, 1);
        Due.is("32: the same, and what is refused, came not behind", x.redo(), 1);
        Due.is("32: KIN", x.of(0, 0), 5);
        x.mend(0, 6, 1);
        Due.is("32: another one came", x.redo(), STATE);
        Due.is("32: EYE is as undone", x.of(0, 1), 9);
        Due.is("31: one more", x.undo(), 1);
        Due.is("32: it can be done again", x.redo(), 0);
        Due.is("32: DAY", x.of(0, 6), 1);
    }

    /** "deeds are none (KIN, BOUGHT, DAY by them, too)" */
    private static void deedsAreNone() {
        TwoAgree x = Due.island(4, 6);
        x.mend(0, 1, 3);
        x.undo();
        x.claim(0);
        x.marry(46);
        x.paid(1, 2);
        x.ends();
        x.image();
        x.citizen(3);
        Due.law(x, "t");
        x.back();
        Due.is("42: no changes", x.count(3), 0);
        Due.is("31: none", x.undo(), STATE);
        Due.is("26: KIN", x.of(1, 0), 4);
        Due.is("27: BOUGHT", x.of(1, 3), 2);
        Due.is("25: DAY", x.of(0, 6), 1);
        Due.is("32: nor did another change come behind", x.redo(), 0);
        Due.is("32: EYE", x.of(0, 1), 3);
    }

    // ---- "AN IMAGE keeps KINS, BOUGHT, DAY, who is before the clerk, what has HAPPENED today, what LED tells"

    private static void noImage() {
        TwoAgree x = new TwoAgree();
        Due.is("30: none", x.back(), STATE);
        Due.is("29: of nobody", x.image(), 0);
        for (int c = 0; c < 10; c++) {
            x.citizen(c % 8);
            x.claim(c);
        }
        Due.is("30: laid back", x.back(), 0);
        Due.is("30: ten came since", x.count(0), 10);
        Due.is("30: none of them before the clerk", x.count(1), 0);
        Due.is("30: led", x.led(0), 0);
        Due.is("30: still full", x.citizen(0), FULL);
    }

    private static void imageKeeps() {
        TwoAgree x = Due.island(0, 1, 2);
        x.ends();
        x.claim(0);
        x.claim(1);
        x.paid(2, 0);
        x.marry(67);
        Due.is("29: days", x.image(), 1);
        for (int again = 0; again < 2; again++) {
            x.claim(2);
            x.marry(12);
            x.paid(0, 5);
            x.paid(2, 6);
            x.ends();
            x.ends();
            x.claim(2);
            Due.is("30: days", x.back(), 1);
            int[] kins = {0, 1, 2};
            int[] bought = {-1, -1, 0};
            for (int c = 0; c < 3; c++) {
                Due.is("30: KIN", x.of(c, 0), kins[c]);
                Due.is("30: BOUGHT", x.of(c, 3), bought[c]);
            }
            Due.is("30: DAY", x.of(0, 6), 1);
            Due.is("30: before the clerk", x.count(1), 2);
            Due.is("30: he was there", x.claim(0), STATE);
            int[] led = {2, 1, 1, 10, 1};
            for (int what = 0; what < 5; what++) {
                Due.is("30: led " + what, x.led(what), led[what]);
            }
            Due.is("30: 0 had happened today", x.claim(2), 0);
        }
        x.ends();
        Due.is("29: a later one", x.image(), 2);
        x.ends();
        Due.is("30: the later one is laid back", x.back(), 2);
        Due.is("30: nobody is before the clerk", x.count(1), 0);
    }

    /** EYE, PRICE, FALLS, WIDE, the law, the tape, shelves and bodies stay as they are. */
    private static void imageKeepsNoMore() {
        TwoAgree x = Due.island(0, 1);
        x.image();
        x.mend(0, 1, 2);
        x.mend(1, 2, 77);
        x.mend(0, 4, 3);
        x.mend(0, 5, 2);
        Due.law(x, "t+1");
        x.feed('e');
        x.body(4);
        x.keep(3, 0);
        x.row(2, 1, 5);
        x.act(0, 0, 1);
        x.back();
        Due.is("30: EYE", x.of(0, 1), 2);
        Due.is("30: PRICE", x.of(1, 2), 77);
        Due.is("30: FALLS", x.of(0, 4), 3);
        Due.is("30: WIDE", x.of(0, 5), 2);
        Due.is("30: the law", x.says(0), 4);
        Due.is("30: the tape", x.count(2), 1);
        Due.is("30: bodies", x.count(4), 1);
        Due.is("30: the trace", x.trace(0), 20);
        Due.is("30: a word on a shelf", x.taken(3, 4), 4);
        Due.is("30: a row on a shelf", x.element(2, 4), 0);
    }

    /** "CITIZENS that came since as they are, none of them before the clerk" */
    private static void imageOfSomeAndThoseSince() {
        TwoAgree x = Due.island(0, 7);
        x.claim(1);
        x.image();
        x.citizen(7);
        x.paid(2, 4);
        x.claim(2);
        x.marry(17);
        x.back();
        Due.is("30: who was there has his KIN again", x.of(1, 0), 7);
        Due.is("30: who came since keeps what he has", x.of(2, 0), 1);
        Due.is("30: he is bought", x.of(2, 3), 4);
        Due.is("30: one before the clerk", x.count(1), 1);
        Due.is("30: he may claim", x.claim(2), 0);
        Due.is("30: the other one was there", x.claim(1), STATE);
    }

    /** "laid back, CHANGES stay as they are" */
    private static void imageLeavesChanges() {
        TwoAgree x = Due.island(0, 1);
        x.mend(0, 0, 3);
        x.image();
        x.mend(0, 0, 5);
        x.mend(0, 6, 9);
        x.undo();
        x.back();
        Due.is("30: KIN", x.of(0, 0), 3);
        Due.is("30: changes", x.count(3), 2);
        Due.is("32: one can be done again", x.redo(), 0);
        Due.is("32: DAY", x.of(0, 6), 9);
        Due.is("31: DAY", x.undo(), 2);
        Due.is("31: the change of KIN", x.undo(), 1);
        Due.is("31: what it was ahead of it", x.of(0, 0), 3);
        Due.is("31: the first one", x.undo(), 0);
        Due.is("31: what it was ahead of that", x.of(0, 0), 0);
    }
}
