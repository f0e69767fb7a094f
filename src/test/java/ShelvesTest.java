/** Promises 33 to 42: body, act, trace, keep, row, put, element, shift, taken, count. */
public final class ShelvesTest {
    private static final int BAD = -1, FULL = -3;
    private static final long NONE = Long.MIN_VALUE;

    public static void main(String[] args) {
        bodies();
        acts();
        actsWrong();
        keeping();
        rows();
        putting();
        shifting();
        shiftingWrong();
        taking();
        counting();
        Due.end("ShelvesTest");
    }

    private static void bodies() {
        TwoAgree x = new TwoAgree();
        Due.is("33: 8", x.body(8), BAD);
        Due.is("33: -1", x.body(-1), BAD);
        for (int i = 0; i < 50; i++) {
            Due.is("33: a word", x.body(i % 8), i);
        }
        Due.is("33: full", x.body(0), FULL);
        Due.is("33: BAD first", x.body(8), BAD);
        Due.is("42: bodies", x.count(4), 50);
    }

    private static void ran(TwoAgree x, int what, int x0, int value, int... bodies) {
        int kind = bodies[0];
        Due.is("34: kind " + kind + " act " + what, x.act(kind, what, x0), value);
        Due.is("42: ran", x.count(5), bodies.length - 1);
        for (int i = 1; i < bodies.length; i++) {
            Due.is("35: kind " + kind + " act " + what + " body " + i, x.trace(i - 1), bodies[i]);
        }
        Due.is("35: no more", x.trace(bodies.length - 1), BAD);
    }

    /** A body of each kind, whose number is its kind; behind x the value, the kind, and the trace. */
    private static void acts() {
        TwoAgree x = new TwoAgree();
        for (int kind = 0; kind < 8; kind++) {
            x.body(kind);
        }
        ran(x, 0, 5, 5, 0, 1);
        ran(x, 1, 5, 10, 0, 10, 1);
        ran(x, 2, 5, 5, 0, 11);
        ran(x, 3, 5, 9, 0, 2, 10, 1, 11);
        ran(x, 0, 5, 9, 1, 20, 1);
        ran(x, 1, 5, 18, 1, 10, 20, 1);
        ran(x, 2, 5, 4, 1, 11);
        ran(x, 3, 5, 18, 1, 2, 10, 20, 1, 11);
        ran(x, 0, 5, 7, 2, 1);
        ran(x, 1, 5, -14, 2, 30, 10, 1);
        ran(x, 3, 5, -17, 2, 2, 30, 10, 1, 11);
        ran(x, 1, 5, -18, 3, 41, 30, 10, 1);
        ran(x, 2, 5, 18, 3, 40, 11);
        ran(x, 3, 5, -24, 3, 2, 41, 30, 10, 1, 40, 11);
        ran(x, 0, 5, 12, 4, 20, 1);
        ran(x, 2, 5, -8, 4, 50, 11, 20, 1);
        ran(x, 3, 5, 28, 4, 2, 10, 20, 1, 50, 11, 20, 1);
        ran(x, 3, 5, -34 ^ 5, 5, 60, 2, 41, 30, 10, 1, 40, 11);
        ran(x, 0, 5, 22, 6, 70, 1);
        ran(x, 1, 5, 44, 6, 10, 70, 1);
        ran(x, 2, 5, 3, 6, 11);
        ran(x, 3, 5, 37, 6, 2, 10, 70, 1, 11);
        ran(x, 0, 5, 15, 7, 20, 1);
        ran(x, 2, 5, -10, 7, 50, 11, 20, 1);
        ran(x, 1, 5, 23, 7, 80, 10, 20, 1, 50, 11, 20, 1);
        ran(x, 3, 5, 28, 7, 81, 2, 80, 10, 20, 1, 50, 11, 20, 1, 50, 11, 20, 1);
        ran(x, 0, Integer.MAX_VALUE, Integer.MIN_VALUE + 3, 1, 20, 1);
    }

    private static void actsWrong() {
        TwoAgree x = new TwoAgree();
        x.body(0);
        int[][] wrong = {{1, 0}, {-1, 0}, {0, 4}, {0, -1}};
        for (int[] call : wrong) {
            x.act(0, 0, 1);
            Due.is("42: one ran", x.count(5), 1);
            Due.is("34: no such", x.act(call[0], call[1], 9), 0);
            Due.is("34: no trace then", x.trace(0), BAD);
            Due.is("42: none ran", x.count(5), 0);
        }
        x.act(0, 0, 1);
        Due.is("35: -1", x.trace(-1), BAD);
        Due.is("35: 24", x.trace(24), BAD);
    }

    private static void keeping() {
        TwoAgree x = new TwoAgree();
        Due.is("36: no such body", x.keep(0, 0), BAD);
        x.body(3);
        Due.is("36: a word", x.keep(5, 0), 1);
        Due.is("41: fog", x.taken(5, 0), 3);
        Due.is("36: 1", x.keep(5, 1), BAD);
        Due.is("36: -2", x.keep(5, -2), BAD);
        Due.is("36: shelf 6", x.keep(6, 0), BAD);
        Due.is("36: shelf -1", x.keep(-1, -1), BAD);
        Due.is("41: as it was", x.taken(5, 0), 3);
        Due.is("36: nothing", x.keep(5, -1), 1);
        Due.is("41: nothing", x.taken(5, 0), -11);
    }

    private static void rows() {
        TwoAgree x = new TwoAgree();
        Due.is("37: shelf 6", x.row(6, 0, 1), BAD);
        Due.is("37: shelf -1", x.row(-1, 0, 1), BAD);
        Due.is("37: sort 5", x.row(0, 5, 1), BAD);
        Due.is("37: sort -1", x.row(0, -1, 1), BAD);
        Due.is("37: 61", x.row(0, 0, 61), BAD);
        Due.is("37: below 0", x.row(0, 0, -1), -14);
        Due.is("37: BAD first", x.row(0, 5, -1), BAD);
        Due.is("37: BAD first", x.row(6, 0, -1), BAD);
        Due.is("37: nothing there yet", x.put(0, 0, 1), -11);
        Due.is("37: 60", x.row(0, 3, 60), 1);
        for (int i = 0; i < 60; i++) {
            Due.is("37: 0 at first", x.element(0, i), 0);
            x.put(0, i, i + 1);
        }
        Due.is("37: refused", x.row(0, 0, -5), -14);
        Due.is("37: as it was", x.element(0, 59), 60);
        Due.is("37: anew", x.row(0, 3, 60), 1);
        Due.is("37: 0 at first", x.element(0, 59), 0);
        Due.is("37: none", x.row(0, 4, 0), 1);
        Due.is("39: no place", x.element(0, 0), NONE);
    }

    private static void putting() {
        TwoAgree x = new TwoAgree();
        long v = 0x123456789abcdef5L;
        long[] kept = {(byte) 0xf5, (short) 0xdef5, 0x9abcdef5, v, 1};
        for (int sort = 0; sort < 5; sort++) {
            x.row(sort, sort, 2);
            Due.is("38: put", x.put(sort, 1, v), 1);
            Due.is("39: its lowest bits", x.element(sort, 1), kept[sort]);
            Due.is("39: the other", x.element(sort, 0), 0);
            x.put(sort, 0, 256);
            Due.is("39: 256", x.element(sort, 0), sort == 0 ? 0 : sort == 4 ? 1 : 256);
            x.put(sort, 1, 0);
            Due.is("39: 0", x.element(sort, 1), 0);
            Due.is("38: place 2", x.put(sort, 2, 1), -13);
            Due.is("38: place -1", x.put(sort, -1, 1), -13);
            Due.is("39: place 2", x.element(sort, 2), NONE);
            Due.is("39: place -1", x.element(sort, -1), NONE);
        }
        Due.is("38: nothing", x.put(5, 9, 1), -11);
        Due.is("39: nothing", x.element(5, 0), NONE);
        x.body(0);
        x.keep(5, 0);
        Due.is("38: a word", x.put(5, 9, 1), -12);
        Due.is("39: a word", x.element(5, 0), NONE);
        Due.is("38: shelf 6", x.put(6, 0, 1), BAD);
        Due.is("38: shelf -1", x.put(-1, 0, 1), BAD);
        Due.is("39: shelf 6", x.element(6, 0), NONE);
        Due.is("39: shelf -1", x.element(-1, 0), NONE);
    }

    private static void holds(TwoAgree x, int shelf, int... values) {
        for (int i = 0; i < values.length; i++) {
            Due.is("40: element " + i, x.element(shelf, i), values[i]);
        }
    }

    private static void shifting() {
        TwoAgree x = new TwoAgree();
        Due.bytes(x, 0, 1, 2, 3, 4, 5);
        Due.bytes(x, 1, 0, 0, 0);
        Due.is("40: two", x.shift(0, 1, 1, 0, 2), 2);
        holds(x, 1, 2, 3, 0);
        Due.is("40: up in itself", x.shift(0, 0, 0, 1, 4), 4);
        holds(x, 0, 1, 1, 2, 3, 4);
        Due.is("40: down in itself", x.shift(0, 1, 0, 0, 4), 4);
        holds(x, 0, 1, 2, 3, 4, 4);
        Due.is("40: none at the end", x.shift(0, 5, 1, 3, 0), 0);
        Due.is("40: all", x.shift(0, 0, 0, 0, 5), 5);
        Due.is("40: the place behind the end", x.shift(0, 6, 1, 0, 0), -13);
        Due.is("40: the place behind the end", x.shift(0, 0, 1, 4, 0), -13);
        Due.is("40: too many here", x.shift(1, 0, 0, 0, 4), -13);
        Due.is("40: too many there", x.shift(0, 0, 1, 0, 4), -13);
        Due.is("40: from -1", x.shift(0, -1, 1, 0, 1), -13);
        Due.is("40: to -1", x.shift(0, 0, 1, -1, 1), -13);
        Due.is("40: n below 0", x.shift(0, 0, 1, 0, -1), -13);
        Due.is("40: far", x.shift(0, 2, 1, 0, Integer.MAX_VALUE), -13);
        Due.is("40: far", x.shift(0, Integer.MAX_VALUE, 1, 0, Integer.MAX_VALUE), -13);
        Due.is("40: far", x.shift(0, 0, 1, Integer.MAX_VALUE, 1), -13);
        Due.is("40: far", x.shift(0, Integer.MIN_VALUE, 1, 0, Integer.MIN_VALUE), -13);
        holds(x, 0, 1, 2, 3, 4, 4);
        holds(x, 1, 2, 3, 0);
    }

    private static void shiftingWrong() {
        TwoAgree x = new TwoAgree();
        x.body(0);
        x.row(0, 0, 3);
        x.row(1, 1, 3);
        x.keep(2, 0);
        Due.is("40: shelf 6", x.shift(6, 0, 0, 0, 0), BAD);
        Due.is("40: shelf -1", x.shift(0, 0, -1, 0, 0), BAD);
        Due.is("40: BAD first", x.shift(3, 0, 6, 0, 0), BAD);
        Due.is("40: nothing here", x.shift(3, 0, 0, 0, 0), -11);
        Due.is("40: nothing there", x.shift(0, 0, 3, 0, 0), -11);
        Due.is("40: -11 ahead of -12", x.shift(2, 0, 3, 0, 0), -11);
        Due.is("40: a word here", x.shift(2, 0, 0, 0, 0), -12);
        Due.is("40: a word there", x.shift(0, 0, 2, 0, 0), -12);
        Due.is("40: two words", x.shift(2, 0, 2, 0, 0), -12);
        Due.is("40: unlike sorts", x.shift(0, 0, 1, 0, 1), -12);
        Due.is("40: -12 ahead of -13", x.shift(0, 9, 1, 0, 1), -12);
    }

    private static void taking() {
        TwoAgree x = new TwoAgree();
        int[] above = {-1, 0, 0, 2, 1, 3, 0, 4};
        for (int kind = 0; kind < 8; kind++) {
            x.body(kind);
            x.keep(0, kind);
            for (int k = 0; k < 8; k++) {
                boolean under = false;
                for (int up = kind; up >= 0; up = above[up]) {
                    under |= up == k;
                }
                Due.is("41: " + kind + " for " + k, x.taken(0, k), under ? kind : -12);
            }
        }
        Due.is("41: shelf 6", x.taken(6, 0), BAD);
        Due.is("41: shelf -1", x.taken(-1, 0), BAD);
        Due.is("41: kind 8", x.taken(0, 8), BAD);
        Due.is("41: kind -1", x.taken(0, -1), BAD);
        Due.is("41: BAD first", x.taken(1, 8), BAD);
        Due.is("41: nothing", x.taken(1, 0), -11);
        x.row(1, 0, 2);
        Due.is("41: a row", x.taken(1, 0), -12);
    }

    private static void counting() {
        TwoAgree x = Due.island(0, 1, 2);
        x.claim(1);
        x.feed('t');
        x.feed('+');
        x.mend(0, 4, 1);
        x.mend(0, 4, 2);
        x.mend(0, 4, 3);
        x.undo();
        x.body(7);
        x.act(0, 3, 5);
        int[] due = {3, 1, 2, 2, 1, 14};
        for (int what = 0; what < 6; what++) {
            Due.is("42: " + what, x.count(what), due[what]);
        }
        Due.is("42: 6", x.count(6), BAD);
        Due.is("42: -1", x.count(-1), BAD);
    }
}
