/** Runs of drawn calls, each answered by TwoAgree as by Plain. */
public final class PlainTest {
    private static final int RUNS = 700, CALLS = 500, CALL_SORTS = 41;
    private static final String LETTERS = "tekpdc0123456789!-(((()))|&<=>+-*/%?;x ";

    private long state;
    private TwoAgree x;
    private Plain y;
    private int run;

    public static void main(String[] args) {
        PlainTest test = new PlainTest();
        for (int run = 0; run < RUNS; run++) {
            test.oneRun(run);
        }
        Due.end("PlainTest");
    }

    private int below(int n) {
        state = state * 6364136223846793005L + 1442695040888963407L;
        return (int) ((state >>> 33) % n);
    }

    /** Mostly from 0 on and below n, now and then a little or far outside. */
    private int near(int n) {
        int way = below(40);
        if (way == 0) return n;
        if (way == 1) return -1;
        if (way == 2) return below(2) == 0 ? Integer.MAX_VALUE - below(3) : Integer.MIN_VALUE + below(3);
        return below(Math.max(1, n));
    }

    private int twoBelow(int n) {
        int way = below(30);
        if (way == 0) return -below(60) - 1;
        if (way == 1) return 10 * n + below(10);
        if (way == 2) return 10 * below(n) + n + below(10 - n);
        return 10 * below(n) + below(n);
    }

    private void oneRun(int number) {
        run = number;
        state = number * 977L + 5;
        x = new TwoAgree();
        y = new Plain();
        int people = below(4) == 0 ? below(4) : 3 + below(8);
        for (int i = 0; i < people; i++) {
            int kin = below(number % 3 == 0 ? 8 : 3);
            same("citizen", x.citizen(kin), y.citizen(kin));
            if (below(2) == 0) {
                int eye = below(13);
                same("mend", x.mend(i, 1, eye), y.mend(i, 1, eye));
            }
        }
        for (int i = 100; i < CALLS; i++) {
            oneCall(below(CALL_SORTS + 9));
        }
    }

    private void same(String call, long got, long want) {
        Due.is("run " + run + ": " + call, got, want);
    }

    private void oneCall(int sort) {
        if (sort < 7) callOfCitizens(sort);
        else if (sort < 15) callOfAgreeing(sort);
        else if (sort < 22) callOfDays(sort);
        else if (sort < 31) callOfDeeds(sort);
        else if (sort < 41) callOfShelves(sort);
        else if (sort < 43) tellLaw();
        else if (sort < 46) fillRow();
        else if (sort < 48) tellAlmanac();
        else callOfCitizens(2);
    }

    private void callOfCitizens(int sort) {
        int a = near(10), b = near(7), c = near(13);
        if (sort == 0 && below(8) == 0) same("citizen " + a, x.citizen(a), y.citizen(a));
        if (sort == 1 && below(3) == 0) same("citizens", x.citizens(near6(a), b, c), y.citizens(near6(a), b, c));
        if (sort == 2 || sort == 3) {
            int number = b >= 4 && below(10) > 0 ? 0 : a;
            int v = below(8) == 0 ? below(110) - 3 : b == 3 ? below(7) - 1 : b == 6 ? below(100) : c;
            same("mend " + number + " " + b + " " + v, x.mend(number, b, v), y.mend(number, b, v));
        }
        if (sort == 4) same("of " + a + " " + b, x.of(a, b), y.of(a, b));
        if (sort == 5 && below(4) == 0) same("feed", x.feed(c), y.feed(c));
        if (sort == 6) same("says " + a, x.says(a), y.says(a));
    }

    private int near6(int v) {
        return v == 10 ? 6 : v > 5 && v < 10 ? v - 5 : v;
    }

    private void callOfAgreeing(int sort) {
        int shelf = near(6), w = near(6), n = near(41), what = near(3), ww = twoBelow(6);
        if (sort == 7) same("all " + what, x.all(what), y.all(what));
        if (sort == 8) same("saying " + w, x.saying(w), y.saying(w));
        if (sort == 9) same("claims " + what, x.claims(shelf, n, what), y.claims(shelf, n, what));
        if (sort == 10) same("happens", x.happens(shelf, w), y.happens(shelf, w));
        if (sort == 11) same("pay " + w + " " + what, x.pay(w, what), y.pay(w, what));
        if (sort == 12 && below(3) == 0) same("payBoth " + ww + " " + what, x.payBoth(ww, what), y.payBoth(ww, what));
        if (sort == 13 && (what != 1 || below(12) == 0)) same("pairs " + what, x.pairs(what), y.pairs(what));
        if (sort == 14) same("strangers " + w, x.strangers(w), y.strangers(w));
    }

    private void callOfDays(int sort) {
        int shelf = near(6), w = near(6), what = near(3), ss = twoBelow(6), c = near(10);
        if (sort == 15) same("likely " + w, x.likely(shelf, w, what), y.likely(shelf, w, what));
        if (sort == 16) same("liars " + what, x.liars(shelf, what), y.liars(shelf, what));
        if (sort == 17) same("days " + what, x.days(shelf, what), y.days(shelf, what));
        if (sort == 18) same("judge " + ss, x.judge(ss), y.judge(ss));
        if (sort == 19) same("fits " + ss + " " + c + " " + what, x.fits(ss, c, what), y.fits(ss, c, what));
        if (sort == 20) {
            int n = below(9) == 0 ? 4 : near(4);
            same("byTurns " + w + " " + n + " " + what, x.byTurns(w, n, what), y.byTurns(w, n, what));
        }
        if (sort == 21 && below(4) == 0) {
            int seed = below(2) == 0 ? below(1000) : (int) (state >>> 20);
            int nm = below(12) == 0 ? near(4200) : 100 * (1 + below(below(9) == 0 ? 30 : 4)) + 1 + below(40);
            int told = near(7);
            same("drawn " + nm + " " + told, x.drawn(seed, nm, told), y.drawn(seed, nm, told));
        }
    }

    private void callOfDeeds(int sort) {
        int c = near(10), w = near(7), kk = twoBelow(8);
        if (sort == 22) same("claim " + c, x.claim(c), y.claim(c));
        if (sort == 23 && below(3) == 0) same("ends", x.ends(), y.ends());
        if (sort == 24 && below(6) == 0) same("marry " + kk, x.marry(kk), y.marry(kk));
        if (sort == 25) same("paid " + c + " " + w, x.paid(c, w), y.paid(c, w));
        if (sort == 26) same("led " + w, x.led(w), y.led(w));
        if (sort == 27 && below(3) == 0) same("image", x.image(), y.image());
        if (sort == 28) same("back", x.back(), y.back());
        if (sort == 29) same("undo", x.undo(), y.undo());
        if (sort == 30) same("redo", x.redo(), y.redo());
    }

    private void callOfShelves(int sort) {
        int shelf = near(6), other = near(6), i = near(12), j = near(12), n = near(8), k = near(8);
        long v = below(4) == 0 ? state : below(300) - 150;
        if (sort == 31) same("body " + k, x.body(k), y.body(k));
        if (sort == 32) {
            int body = near(8), what = near(4);
            same("act " + body + " " + what, x.act(body, what, (int) v), y.act(body, what, (int) v));
        }
        if (sort == 33) same("trace " + n, x.trace(n), y.trace(n));
        if (sort == 34 && below(3) == 0) same("keep", x.keep(shelf, n - 1), y.keep(shelf, n - 1));
        if (sort == 35 && below(3) == 0) same("row", x.row(shelf, near6(n), i), y.row(shelf, near6(n), i));
        if (sort == 36) same("put", x.put(shelf, i, v), y.put(shelf, i, v));
        if (sort == 37) same("element", x.element(shelf, i), y.element(shelf, i));
        if (sort == 38) same("shift", x.shift(shelf, i, other, j, n), y.shift(shelf, i, other, j, n));
        if (sort == 39) same("taken", x.taken(shelf, k), y.taken(shelf, k));
        if (sort == 40) same("count " + n, x.count(n), y.count(n));
    }

    private void tellLaw() {
        StringBuilder text = new StringBuilder();
        int lines = 1 + below(3);
        for (int i = 0; i < lines; i++) {
            if (i > 0) text.append(';');
            expression(text, 0);
            if (below(2) == 0) {
                text.append('?');
                expression(text, 0);
            }
        }
        if (below(3) == 0 && text.length() > 0) {
            text.setCharAt(below(text.length()), LETTERS.charAt(below(LETTERS.length())));
        }
        for (int i = 0; i < text.length() && i < 121; i++) {
            same("feed", x.feed(text.charAt(i)), y.feed(text.charAt(i)));
        }
        same("law " + text, x.law(), y.law());
        for (int c = 0; c < 3; c++) {
            same("says " + c + " by " + text, x.says(c), y.says(c));
        }
    }

    private void expression(StringBuilder text, int depth) {
        int parts = 1 + below(3);
        for (int i = 0; i < parts; i++) {
            if (i > 0) text.append("|&<=>+-*/%+-*%".charAt(below(14)));
            int way = below(8);
            if (way == 0 && depth < 8) {
                text.append('(');
                expression(text, depth + 1);
                text.append(')');
            } else if (way == 1) {
                text.append("!-".charAt(below(2)));
                text.append("tekpdc".charAt(below(6)));
            } else if (way == 2) {
                text.append(below(below(6) == 0 ? 20000 : 12));
            } else {
                text.append("tekpdc".charAt(below(6)));
            }
        }
    }

    /** A row of small bytes, among which the calls find claims, days, what was said, citizens. */
    private void fillRow() {
        int shelf = below(6), n = below(10) == 0 ? 41 + below(20) : below(20);
        same("row", x.row(shelf, 0, n), y.row(shelf, 0, n));
        int most = below(2) == 0 ? 6 : 11;
        for (int i = 0; i < n; i++) {
            int v = below(25) == 0 ? below(256) - 128 : below(most);
            same("put", x.put(shelf, i, v), y.put(shelf, i, v));
        }
    }

    /** What truly happens by the days of shelf 0 is told on shelf 1, now and then with a fault. */
    private void tellAlmanac() {
        int n = below(below(6) == 0 ? 45 : 5);
        int falls = y.of(0, 4), day = y.of(0, 6);
        same("row", x.row(0, 0, n), y.row(0, 0, n));
        same("row", x.row(1, 0, n), y.row(1, 0, n));
        for (int i = 0; i < n; i++) {
            int t = below(6);
            y.mend(0, 4, t);
            y.mend(0, 6, Math.min(99, day + i));
            int bits = y.all(0);
            int told = below(30) == 0 ? below(70) : bits;
            x.mend(0, 4, t);
            x.mend(0, 6, Math.min(99, day + i));
            same("put", x.put(0, i, t), y.put(0, i, t));
            same("put", x.put(1, i, told), y.put(1, i, told));
        }
        x.mend(0, 4, falls);
        y.mend(0, 4, falls);
        x.mend(0, 6, day);
        y.mend(0, 6, day);
        same("judge", x.judge(1), y.judge(1));
        for (int what = 0; what < 3; what++) {
            int c = below(10);
            same("fits 1 " + c + " " + what, x.fits(1, c, what), y.fits(1, c, what));
        }
    }
}
