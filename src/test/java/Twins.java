import java.util.ArrayList;
import java.util.List;

/**
 * Islands made alike. One is asked what must change nothing; then it has to answer everything as one that
 * was not asked. What cannot be read (the tape's bytes, the image, who is before the clerk, what has
 * happened today, what can be undone) is brought to light by deeds at the end. Each island gets fewer than 512 calls.
 */
final class Twins {
    /** What makes an island. */
    interface Making {
        void on(TwoAgree x);
    }

    /** One call. */
    interface Call {
        long on(TwoAgree x);
    }

    private final String name;
    private final Making making;
    private final List<String> untouched;

    Twins(String name, Making making) {
        this.name = name;
        this.making = making;
        untouched = answers(made());
    }

    private TwoAgree made() {
        TwoAgree x = new TwoAgree();
        making.on(x);
        return x;
    }

    /** The call answers what is due, and changes nothing. */
    void keep(String what, long due, Call call) {
        TwoAgree x = made();
        Due.is(name + ": " + what, call.on(x), due);
        alike(what, x, true);
    }

    /** The same, but that the trace is gone: what act() does if there is no such word or act. */
    void keepButTrace(String what, long due, Call call) {
        TwoAgree x = made();
        Due.is(name + ": " + what, call.on(x), due);
        Due.is(name + ": " + what + ": no trace", x.trace(0), TwoAgree.BAD);
        Due.is(name + ": " + what + ": none ran", x.count(5), 0);
        alike(what, x, false);
    }

    /** Whatever the call answers, it changes nothing. */
    void onlyAnswers(String what, Call call) {
        TwoAgree x = made();
        long first = call.on(x);
        Due.is(name + ": " + what + " asked again", call.on(x), first);
        alike(what, x, true);
    }

    private void alike(String what, TwoAgree x, boolean traceToo) {
        List<String> touched = answers(x);
        String unlike = "";
        for (int i = 0; i < untouched.size() && unlike.isEmpty(); i++) {
            String want = untouched.get(i);
            boolean isTrace = want.startsWith("trace") || want.startsWith("count 5");
            if (traceToo || !isTrace) {
                unlike = touched.get(i).equals(want) ? "" : touched.get(i) + " was " + want;
            }
        }
        Due.holds(name + ": " + what + " changed something: " + unlike, unlike.isEmpty());
    }

    // ---- everything that an island answers

    private static List<String> answers(TwoAgree x) {
        List<String> all = new ArrayList<>();
        for (int what = 0; what < 6; what++) {
            all.add("count " + what + " " + x.count(what));
        }
        for (int i = 0; i < 14; i++) {
            all.add("trace " + i + " " + x.trace(i));
        }
        ledger(x, all);
        people(x, all);
        speeches(x, all);
        shelves(x, all);
        words(x, all);
        atTheClerk(x, all);
        changes(x, all);
        image(x, all);
        tape(x, all);
        return all;
    }

    private static void ledger(TwoAgree x, List<String> all) {
        for (int what = 0; what < 5; what++) {
            all.add("led " + what + " " + x.led(what));
        }
    }

    private static void people(TwoAgree x, List<String> all) {
        for (int c = 0; c < x.count(0); c++) {
            for (int what = 0; what < 4; what++) {
                all.add("of " + c + " " + what + " " + x.of(c, what));
            }
        }
        for (int what = 4; what < 7; what++) {
            all.add("of " + what + " " + x.of(0, what));
        }
    }

    private static void speeches(TwoAgree x, List<String> all) {
        for (int c = 0; c < x.count(0); c++) {
            all.add("says " + c + " " + x.says(c));
        }
    }

    /** What each holds, as far as seven elements; a shift of none tells whether two hold rows of one sort. */
    private static void shelves(TwoAgree x, List<String> all) {
        for (int shelf = 0; shelf < 6; shelf++) {
            all.add("taken " + shelf + " " + x.taken(shelf, 0));
            for (int i = 0; i < 7; i++) {
                all.add("element " + shelf + " " + i + " " + x.element(shelf, i));
            }
            for (int other = 0; other < shelf; other++) {
                all.add("shift " + shelf + " " + other + " " + x.shift(shelf, 0, other, 0, 0));
            }
        }
    }

    private static void words(TwoAgree x, List<String> all) {
        for (int body = 0; body < 4; body++) {
            all.add("act " + body + " " + x.act(body, 3, 5));
        }
    }

    private static void atTheClerk(TwoAgree x, List<String> all) {
        for (int c = 0; c < x.count(0); c++) {
            all.add("claim " + c + " " + x.claim(c));
        }
        ledger(x, all);
    }

    private static void changes(TwoAgree x, List<String> all) {
        int left = 0;
        for (int i = 0; i < 41 && left >= 0; i++) {
            left = x.redo();
            all.add("redo " + left);
        }
        people(x, all);
        left = 0;
        for (int i = 0; i < 41 && left >= 0; i++) {
            left = x.undo();
            all.add("undo " + left);
        }
        people(x, all);
    }

    private static void image(TwoAgree x, List<String> all) {
        all.add("back " + x.back());
        people(x, all);
        atTheClerk(x, all);
    }

    private static void tape(TwoAgree x, List<String> all) {
        all.add("law " + x.law());
        speeches(x, all);
    }
}
