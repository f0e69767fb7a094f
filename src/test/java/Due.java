/** Counts answers that are not as due, and says at the end whether there was one. */
final class Due {
    private static int looked = 0;
    private static int wrong = 0;

    private Due() {
    }

    static void is(String call, long got, long want) {
        looked++;
        if (got != want) {
            wrong++;
            System.out.println(call + " answered " + got + ", due is " + want);
        }
    }

    static void holds(String what, boolean so) {
        is(what, so ? 1 : 0, 1);
    }

    static void end(String test) {
        System.out.println(test + ": " + looked + " answers, " + wrong + " not as due");
        if (wrong != 0) {
            System.exit(1);
        }
    }

    /** Feeds a text and makes it the law: what law() answers. */
    static int law(TwoAgree x, String text) {
        for (int i = 0; i < text.length(); i++) {
            x.feed(text.charAt(i));
        }
        return x.law();
    }

    /** A row of bytes on a shelf. */
    static void bytes(TwoAgree x, int shelf, int... values) {
        is("row", x.row(shelf, 0, values.length), 1);
        for (int i = 0; i < values.length; i++) {
            is("put", x.put(shelf, i, values[i]), 1);
        }
    }

    /** An island with one citizen of each of these kins. */
    static TwoAgree island(int... kins) {
        TwoAgree x = new TwoAgree();
        for (int i = 0; i < kins.length; i++) {
            is("citizen", x.citizen(kins[i]), i);
        }
        return x;
    }
}
