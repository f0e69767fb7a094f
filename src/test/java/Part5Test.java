/** The bounds that stand in part 5 of the terms: bodies, acts, shelves, rows, and an object's 512 calls. */
public final class Part5Test {
    private static final int BAD = -1, FULL = -3;
    private static final long NONE = Long.MIN_VALUE;

    public static void main(String[] args) {
        fiftyBodies();
        bodyNumbersInActs();
        intsThatWrapInActs();
        traceOfTheLatestAct();
        neverMoreThan24();
        sixShelves();
        whatAShelfHoldsAnew();
        rowsOfNoneToSixty();
        zeroAtFirst();
        lowestBits();
        booleans();
        shiftAsTheyAllWere();
        shiftOfEachSort();
        shiftAtTheEnds();
        takenForEachKind();
        citizensFromPlaces();
        citizensEnd();
        fullWhileComing();
        the512thCall();
        Due.end("Part5Test");
    }

    // ---- "kept by call as BODIES 0 .. 49, of KINDS"

    private static void fiftyBodies() {
        for (int kind = 0; kind < 8; kind++) {
            TwoAgree x = new TwoAgree();
            for (int n = 0; n < 50; n++) {
                Due.is("33: kind " + kind, x.body(kind), n);
                Due.is("42: bodies", x.count(4), n + 1);
            }
            Due.is("33: the fifty-first", x.body(kind), FULL);
            Due.is("33: BAD ahead of FULL", x.body(8), BAD);
            Due.is("42: fifty", x.count(4), 50);
            Due.is("36: the last is kept on a shelf", x.keep(5, 49), 1);
            Due.is("36: there is no fiftieth", x.keep(5, 50), BAD);
            Due.is("41: its kind", x.taken(5, 0), kind);
        }
    }

    /** "n its number": denies of a WORD is x ^ n, falls x + n. */
    private static void bodyNumbersInActs() {
        TwoAgree x = new TwoAgree();
        for (int n = 0; n < 50; n++) {
            x.body(0);
        }
        for (int n : new int[] {0, 1, 48, 49}) {
            Due.is("34: falls of " + n, x.act(n, 0, 100), 100 + n);
            Due.is("34: says of " + n, x.act(n, 1, 100), 200 + 2 * n);
            Due.is("34: denies of " + n, x.act(n, 2, 100), 100 ^ n);
            Due.is("34: tells of " + n, x.act(n, 3, 100), 200 + 2 * n - (1 ^ n));
        }
        Due.is("34: no body 50", x.act(50, 0, 100), 0);
        Due.is("34: no body -1", x.act(-1, 0, 100), 0);
        Due.is("34: no act 4", x.act(0, 4, 100), 0);
        Due.is("34: no act -1", x.act(0, -1, 100), 0);
    }

    /** "x (an int that wraps)" */
    private static void intsThatWrapInActs() {
        TwoAgree x = new TwoAgree();
        int most = Integer.MAX_VALUE, least = Integer.MIN_VALUE;
        for (int kind = 0; kind < 8; kind++) {
            x.body(kind);
        }
        Due.is("34: WORD says", x.act(0, 1, most), -2);
        Due.is("34: WORD says", x.act(0, 1, least), 0);
        Due.is("34: WORD falls", x.act(0, 0, least), least);
        Due.is("34: RAIN falls", x.act(1, 0, most), least + 3);
        Due.is("34: MIST says -0", x.act(2, 1, most - 1), 0);
        Due.is("34: FOG says x + 1", x.act(3, 1, most), -((least + 3) * 2));
        Due.is("34: FOG denies", x.act(3, 2, least), (least ^ 3) * 3);
        Due.is("34: STORM denies", x.act(4, 2, least), (least ^ 4) - (2 + 4 + 3));
        Due.is("34: COUSIN falls", x.act(6, 0, 1 << 30), (1 << 31) + 12);
        Due.is("34: SNOW says", x.act(7, 1, most), (most + 7 + 3) * 2 + (2 ^ 7) - (2 + 7 + 3));
        // -(-2147483648) stays what it is: falls gives 1 << 30, twice that is the least.
        Due.is("34: MIST says the least", x.act(2, 1, (1 << 30) - 2), least);
    }

    // ---- "THE TRACE: numbers of the bodies that ran in the latest act(); the first 24 are kept"

    private static void traceOfTheLatestAct() {
        TwoAgree x = new TwoAgree();
        Due.is("35: no act yet", x.trace(0), BAD);
        x.body(7);
        x.body(0);
        x.act(0, 3, 5);
        int[] snow = {81, 2, 80, 10, 20, 1, 50, 11, 20, 1, 50, 11, 20, 1};
        for (int i = 0; i < snow.length; i++) {
            Due.is("35: " + i, x.trace(i), snow[i]);
        }
        Due.is("35: the fifteenth", x.trace(14), BAD);
        Due.is("35: -1", x.trace(-1), BAD);
        x.act(1, 1, 5);
        Due.is("35: of the latest one", x.trace(0), 10);
        Due.is("35: of the latest one", x.trace(1), 1);
        Due.is("35: the earlier one's are gone", x.trace(2), BAD);
        Due.is("42: two", x.count(5), 2);
    }

    /** No act runs as many as 24 bodies, so all that ran are kept. */
    private static void neverMoreThan24() {
        TwoAgree x = new TwoAgree();
        int most = 0;
        for (int kind = 0; kind < 8; kind++) {
            x.body(kind);
            for (int act = 0; act < 4; act++) {
                x.act(kind, act, 1);
                int ran = x.count(5);
                most = Math.max(most, ran);
                for (int i = 0; i < 25; i++) {
                    Due.holds("35: " + i + " of " + ran, x.trace(i) > 0 == i < ran);
                }
            }
        }
        Due.is("35: fourteen at most", most, 14);
    }

    // ---- "SHELVES 0 .. 5 each hold nothing (at first), a WORD (a BODY), or a ROW"

    private static void sixShelves() {
        TwoAgree x = new TwoAgree();
        x.body(2);
        for (int shelf = 0; shelf < 6; shelf++) {
            Due.is("36: nothing at first", x.taken(shelf, 0), -11);
            Due.is("38: nothing at first", x.put(shelf, 0, 1), -11);
            Due.is("39: nothing at first", x.element(shelf, 0), NONE);
        }
        for (int shelf = 0; shelf < 6; shelf++) {
            Due.is("37: a row", x.row(shelf, 3, 1), 1);
            Due.is("38: its own", x.put(shelf, 0, 100 + shelf), 1);
        }
        for (int shelf = 0; shelf < 6; shelf++) {
            Due.is("39: its own", x.element(shelf, 0), 100 + shelf);
            Due.is("36: a word", x.keep(shelf, 0), 1);
            Due.is("41: a word", x.taken(shelf, 2), 2);
            Due.is("39: no row any more", x.element(shelf, 0), NONE);
        }
        for (int shelf : new int[] {-1, 6}) {
            Due.is("36: shelf " + shelf, x.keep(shelf, 0), BAD);
            Due.is("37: shelf " + shelf, x.row(shelf, 0, 1), BAD);
            Due.is("38: shelf " + shelf, x.put(shelf, 0, 1), BAD);
            Due.is("39: shelf " + shelf, x.element(shelf, 0), NONE);
            Due.is("41: shelf " + shelf, x.taken(shelf, 0), BAD);
        }
    }

    private static void whatAShelfHoldsAnew() {
        TwoAgree x = new TwoAgree();
        x.body(0);
        Due.is("36: nothing where nothing is", x.keep(1, -1), 1);
        x.row(1, 0, 60);
        x.put(1, 59, 9);
        Due.is("36: nothing instead of a row", x.keep(1, -1), 1);
        Due.is("38: nothing", x.put(1, 0, 1), -11);
        x.row(1, 0, 60);
        Due.is("37: 0 again", x.element(1, 59), 0);
        x.put(1, 59, 9);
        x.row(1, 1, 59);
        Due.is("37: one less", x.element(1, 59), NONE);
        x.row(1, 1, 60);
        Due.is("37: 0 again", x.element(1, 59), 0);
        Due.is("36: a word instead of a row", x.keep(1, 0), 1);
        Due.is("38: a word", x.put(1, 0, 1), -12);
        Due.is("36: the same word on two shelves", x.keep(2, 0), 1);
        Due.is("37: a row instead of a word", x.row(1, 4, 1), 1);
        Due.is("41: a row", x.taken(1, 0), -12);
        Due.is("41: the other one stays", x.taken(2, 0), 0);
    }

    // ---- "of 0 .. 60 elements, 0 at first (false)"

    private static void rowsOfNoneToSixty() {
        TwoAgree x = new TwoAgree();
        for (int sort = 0; sort < 5; sort++) {
            for (int n : new int[] {0, 1, 2, 59, 60}) {
                Due.is("37: " + n + " of sort " + sort, x.row(2, sort, n), 1);
                Due.is("38: place -1", x.put(2, -1, 1), -13);
                Due.is("39: place -1", x.element(2, -1), NONE);
                Due.is("38: the last place", x.put(2, n - 1, 1), n == 0 ? -13 : 1);
                Due.is("39: the last place", x.element(2, n - 1), n == 0 ? NONE : 1);
                Due.is("38: one behind it", x.put(2, n, 1), -13);
                Due.is("39: one behind it", x.element(2, n), NONE);
            }
            Due.is("37: 61", x.row(2, sort, 61), BAD);
            Due.is("37: -1", x.row(2, sort, -1), -14);
            Due.is("39: as it was", x.element(2, 59), 1);
        }
        Due.is("37: sort 5", x.row(2, 5, 1), BAD);
        Due.is("37: sort -1", x.row(2, -1, 1), BAD);
        Due.is("39: as it was", x.element(2, 59), 1);
    }

    private static void zeroAtFirst() {
        TwoAgree x = new TwoAgree();
        for (int sort = 0; sort < 5; sort++) {
            x.row(0, sort, 60);
            for (int i = 0; i < 60; i++) {
                Due.is("37: 0 at first", x.element(0, i), 0);
                x.put(0, i, -1);
            }
        }
    }

    // ---- "what is put in keeps its lowest bits (a boolean: whether it is not 0; 1 or 0)"

    private static void lowestBits() {
        TwoAgree x = new TwoAgree();
        int[] bits = {8, 16, 32, 64};
        for (int sort = 0; sort < 4; sort++) {
            x.row(0, sort, 1);
            long most = Long.MAX_VALUE >>> 64 - bits[sort];
            long least = -most - 1;
            long[] in = {0, 1, -1, most, most + 1, least, least - 1, 2 * most + 1, 2 * most + 2, Long.MAX_VALUE,
                Long.MIN_VALUE};
            long[] out = {0, 1, -1, most, least, least, most, -1, 0, -1, 0};
            if (sort == 3) {
                out[9] = most;
                out[10] = least;
            }
            for (int i = 0; i < in.length; i++) {
                Due.is("38: " + in[i], x.put(0, 0, in[i]), 1);
                Due.is("39: " + in[i] + " of sort " + sort, x.element(0, 0), out[i]);
            }
        }
    }

    private static void booleans() {
        TwoAgree x = new TwoAgree();
        x.row(0, 4, 2);
        for (long v : new long[] {1, 2, -1, 256, 1L << 16, 1L << 32, 1L << 63, Long.MAX_VALUE}) {
            x.put(0, 1, v);
            Due.is("39: " + v + " is not 0", x.element(0, 1), 1);
            x.put(0, 1, 0);
            Due.is("39: 0", x.element(0, 1), 0);
        }
        Due.is("39: the other", x.element(0, 0), 0);
    }

    // ---- shift: "n elements of a ROW from i on come to another one (or the same) from j on, as they all were before"

    private static void shiftAsTheyAllWere() {
        for (int i = 0; i <= 6; i++) {
            for (int j = 0; j <= 6; j++) {
                for (int n = 0; n <= 7; n++) {
                    TwoAgree x = new TwoAgree();
                    Due.bytes(x, 3, 1, 2, 3, 4, 5, 6);
                    boolean fits = i + n <= 6 && j + n <= 6;
                    Due.is("40: " + n + " from " + i + " to " + j, x.shift(3, i, 3, j, n), fits ? n : -13);
                    for (int k = 0; k < 6; k++) {
                        boolean came = fits && k >= j && k < j + n;
                        Due.is("40: element " + k, x.element(3, k), came ? i + k - j + 1 : k + 1);
                    }
                }
            }
        }
    }

    private static void shiftOfEachSort() {
        TwoAgree x = new TwoAgree();
        long v = 0x0102030405060708L;
        long[] kept = {8, 0x0708, 0x05060708, v, 1};
        for (int sort = 0; sort < 5; sort++) {
            x.row(0, sort, 2);
            x.row(1, sort, 60);
            x.put(0, 1, v);
            Due.is("40: two of sort " + sort, x.shift(0, 0, 1, 58, 2), 2);
            Due.is("40: the last", x.element(1, 59), kept[sort]);
            Due.is("40: the one ahead", x.element(1, 58), 0);
            Due.is("40: one of the last", x.shift(1, 59, 0, 0, 1), 1);
            Due.is("40: there", x.element(0, 0), kept[sort]);
            for (int other = 0; other < 5; other++) {
                x.row(2, other, 2);
                Due.is("40: sort " + sort + " to " + other, x.shift(0, 0, 2, 0, 2), sort == other ? 2 : -12);
                Due.is("40: came or not", x.element(2, 1), sort == other ? kept[sort] : 0);
            }
        }
    }

    private static void shiftAtTheEnds() {
        TwoAgree x = new TwoAgree();
        x.row(0, 0, 60);
        x.row(1, 0, 0);
        Due.is("40: sixty", x.shift(0, 0, 0, 0, 60), 60);
        Due.is("40: sixty-one", x.shift(0, 0, 0, 0, 61), -13);
        Due.is("40: none at 60", x.shift(0, 60, 0, 60, 0), 0);
        Due.is("40: none at 61", x.shift(0, 61, 0, 60, 0), -13);
        Due.is("40: none to 61", x.shift(0, 60, 0, 61, 0), -13);
        Due.is("40: one at 60", x.shift(0, 60, 0, 0, 1), -13);
        Due.is("40: one to 60", x.shift(0, 0, 0, 60, 1), -13);
        Due.is("40: none of none", x.shift(1, 0, 1, 0, 0), 0);
        Due.is("40: one of none", x.shift(1, 0, 0, 0, 1), -13);
        Due.is("40: one to none", x.shift(0, 0, 1, 0, 1), -13);
        Due.is("40: none to none", x.shift(0, 0, 1, 0, 0), 0);
        Due.is("40: from -1", x.shift(0, -1, 0, 0, 1), -13);
        Due.is("40: to -1", x.shift(0, 0, 0, -1, 1), -13);
        Due.is("40: -1 of them", x.shift(0, 1, 0, 1, -1), -13);
    }

    /** "taken for a WORD of KIND k, or under it": under 0 all, under 1 RAIN, STORM, SNOW, and so on. */
    private static void takenForEachKind() {
        int[] under = {0b11111111, 0b10010010, 0b00101100, 0b00101000, 0b10010000, 0b00100000, 0b01000000, 0b10000000};
        TwoAgree x = new TwoAgree();
        for (int kind = 0; kind < 8; kind++) {
            x.body(kind);
            x.keep(4, kind);
            for (int k = 0; k < 8; k++) {
                boolean isUnder = (under[k] >> kind & 1) != 0;
                Due.is("41: " + kind + " for " + k, x.taken(4, k), isUnder ? kind : -12);
            }
            Due.is("41: for 8", x.taken(4, 8), BAD);
            Due.is("41: for -1", x.taken(4, -1), BAD);
        }
    }

    // ---- "CITIZENS FROM A ROW of bytes, from a place on: by threes KIN, EYE, PRICE: n of them"

    private static void citizensFromPlaces() {
        for (int i = -2; i <= 8; i++) {
            TwoAgree x = new TwoAgree();
            Due.bytes(x, 0, 1, 2, 3, 4, 5, 6, 7);
            int due = i < 0 ? 0 : Math.max(0, (7 - i) / 3);
            Due.is("3: from " + i + " on", x.citizens(0, i, 10), due);
            Due.is("3: one from " + i + " on", x.citizens(0, i, 1), Math.min(1, due));
            for (int c = 0; c < due; c++) {
                Due.is("3: KIN", x.of(c, 0), i + 3 * c + 1);
                Due.is("3: EYE", x.of(c, 1), i + 3 * c + 2);
                Due.is("3: PRICE", x.of(c, 2), i + 3 * c + 3);
                Due.is("3: BOUGHT", x.of(c, 3), -1);
            }
        }
        for (int n = 0; n <= 11; n++) {
            TwoAgree x = new TwoAgree();
            x.row(0, 0, 60);
            Due.is("3: " + n + " of twenty", x.citizens(0, 0, n), n == 0 || n == 11 ? BAD : n);
            Due.is("42: so many", x.count(0), n == 0 || n == 11 ? 0 : n);
        }
    }

    /** "one is not so: those ahead came" */
    private static void citizensEnd() {
        int[] beyond = {8, 13, 100};
        for (int wrong = 0; wrong < 3; wrong++) {
            for (int what = 0; what < 3; what++) {
                for (int v : new int[] {-1, beyond[what]}) {
                    TwoAgree x = new TwoAgree();
                    x.row(0, 0, 9);
                    x.put(0, 3 * wrong + what, v);
                    Due.is("3: number " + wrong + " is not so", x.citizens(0, 0, 3), wrong);
                    Due.is("42: those ahead", x.count(0), wrong);
                }
            }
        }
    }

    private static void fullWhileComing() {
        for (int there = 0; there <= 10; there++) {
            TwoAgree x = new TwoAgree();
            for (int c = 0; c < there; c++) {
                x.citizen(1);
            }
            x.row(0, 0, 60);
            Due.is("3: till ten", x.citizens(0, 0, 10), 10 - there);
            Due.is("42: ten", x.count(0), 10);
            Due.is("2: full", x.citizen(0), FULL);
            Due.is("2: BAD ahead of FULL", x.citizen(-1), BAD);
            Due.is("3: nobody comes any more", x.citizens(0, 0, 1), 0);
        }
    }

    // ---- "An object is used for at most 512 calls after it has been made"

    private static void the512thCall() {
        TwoAgree x = Due.island(0, 1);
        for (int call = 3; call < 512; call++) {
            int i = call % 5;
            if (i == 0) x.mend(0, 6, call % 100);
            if (i == 1) x.ends();
            if (i == 2) x.paid(0, 6);
            if (i == 3) x.act(0, 0, 0);
            if (i == 4) x.marry(67);
        }
        Due.is("9: the 512th call", x.all(0), 1);
        TwoAgree y = Due.island(0);
        for (int call = 2; call < 512; call++) {
            y.mend(0, 6, call % 2 + 1);
        }
        Due.is("42: the 512th call", y.count(3), 40);
        TwoAgree z = new TwoAgree();
        for (int call = 1; call < 512; call++) {
            z.row(call % 6, call % 5, call % 61);
        }
        Due.is("39: the 512th call", z.element(511 % 6, 511 % 61 - 1), 0);
    }
}
