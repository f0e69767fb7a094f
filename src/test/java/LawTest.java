/** Promises 6 to 8: feed, law, says by a law. */
public final class LawTest {
    private static final int BAD = -1, FULL = -3;

    public static void main(String[] args) {
        feeding();
        faults();
        openAtOnce();
        values();
        lines();
        names();
        lawStays();
        longest();
        Due.end("LawTest");
    }

    private static void feeding() {
        TwoAgree x = new TwoAgree();
        Due.is("6: -1", x.feed(-1), BAD);
        Due.is("6: 256", x.feed(256), BAD);
        for (int i = 1; i <= 120; i++) {
            Due.is("6: a byte", x.feed(i % 2 == 0 ? 0 : 255), i);
        }
        Due.is("6: full", x.feed(1), FULL);
        Due.is("6: BAD is named first", x.feed(256), BAD);
        Due.is("6: count", x.count(2), 120);
        Due.is("7: fault at 0", x.law(), -100);
        Due.is("7: empty then", x.count(2), 0);
        Due.is("6: from one again", x.feed('t'), 1);
    }

    private static void fault(String text, int place) {
        Due.is("7: " + text, Due.law(new TwoAgree(), text), -100 - place);
    }

    private static void good(String text) {
        Due.is("7: " + text, Due.law(new TwoAgree(), text), 1);
    }

    private static void faults() {
        fault("", 0);
        fault("+", 0);
        fault("t+", 2);
        fault("t t", 1);
        fault(" t", 0);
        fault("T", 0);
        fault("tt", 1);
        fault("t5", 1);
        fault("5t", 1);
        fault("12345", 4);
        good("1234");
        good("0000");
        fault("(t", 2);
        fault("t)", 1);
        fault("()", 1);
        fault("(t;1)", 2);
        fault("(t?1)", 2);
        fault("t?1?2", 3);
        fault("t?", 2);
        fault("?t", 0);
        fault("t;", 2);
        fault(";t", 0);
        fault("t;;t", 2);
        good("t?1;e?2;3");
        good("3;4;5");
        good("t?1");
        fault("t<e<k", 3);
        fault("t=e>k", 3);
        good("(t<e)<k");
        good("t<e&k<p");
        good("t<e|k=p&d>c");
        fault("t<", 2);
        fault("t==e", 2);
        fault("t!e", 1);
        fault("t!", 1);
        good("t--e");
        good("t+-e");
        fault("t++e", 2);
        fault("t**e", 2);
        good("t*-e");
        good("!t+!e");
        good("t%e/k*p");
        fault("t^e", 1);
        fault("t" + (char) 0, 1);
        fault("t" + (char) 200, 1);
        fault("x", 0);
        fault("(t))", 3);
    }

    private static void openAtOnce() {
        good("((((((t))))))");
        fault("(((((((t", 6);
        good("!!!!!!t");
        fault("!!!!!!!t", 6);
        good("------1");
        fault("-------1", 6);
        good("((!-(!t)))");
        good("(((!-!t)))");
        fault("(((!-!(t)))", 6);
        good("!!!!!!t+!!!!!!t");
        good("(t)+(t)+(t)+(t)+(t)+(t)+(t)+(t)");
        good("((((((t))))))+((((((t))))))");
        good("(((((!t)+!t)+!t)+!t)+!t)+!t");
        fault("((((((t+!t", 8);
        good("((((((t-e)-(t))))))");
        fault("((((((t-e)-(t)))))))", 19);
        good("t-t-t-t-t-t-t-t-t");
        good("!(-(!(t)))");
        fault("!(-(!((t", 6);
    }

    /** The law's value, held within 0 .. 5. */
    private static void gives(String text, int value) {
        TwoAgree x = Due.island(3);
        x.mend(0, 4, 2);
        x.mend(0, 1, 7);
        x.mend(0, 2, 55);
        x.mend(0, 6, 31);
        Due.is("7: " + text, Due.law(x, text), 1);
        Due.is("8: " + text, x.says(0), value);
    }

    private static void values() {
        gives("1+2*2", 5);
        gives("(1+1)*2", 4);
        gives("9-3-2", 4);
        gives("8/2/2", 2);
        gives("17%10/2", 3);
        gives("-7/2+7", 4);
        gives("-7%4+5", 2);
        gives("3/0+4", 4);
        gives("3%0+4", 4);
        gives("-5+9", 4);
        gives("!5+2", 2);
        gives("!0+2", 3);
        gives("!!5", 1);
        gives("--3", 3);
        gives("7|0", 1);
        gives("0|0", 0);
        gives("7&2", 1);
        gives("7&0", 0);
        gives("1|0&0", 1);
        gives("0&0|1", 1);
        gives("2<3", 1);
        gives("3<3", 0);
        gives("3=3", 1);
        gives("2=3", 0);
        gives("4>3", 1);
        gives("3>3", 0);
        gives("1+1=2", 1);
        gives("4+(2=2)", 5);
        gives("2=2&3", 1);
        gives("2>1|0", 1);
        gives("9999", 5);
        gives("0-9999", 0);
        gives("0004", 4);
        // Ints that wrap: 46341 squared is below 0, so held at 0; 65536 squared is 0.
        gives("(9999*5-3654)*(9999*5-3654)", 0);
        gives("(9999*7-4457)*(9999*7-4457)+3", 3);
        gives("-9999*9999*9999/9999/9999*0+2", 2);
        // -2147483648 by -1 stays what it is; its rest is 0.
        gives("(8192*8192*32)/-1<0", 1);
        gives("(8192*8192*32)%-1+4", 4);
        gives("-(8192*8192*32)<0", 1);
    }

    private static void lines() {
        gives("0?1;0?2;3", 3);
        gives("0?1;5?2;3", 2);
        gives("-1?1;3", 1);
        gives("0?1;0?2", 0);
        gives("4;1?5", 4);
        gives("0;3", 0);
        gives("0?9;t", 2);
        gives("t=2?4;5", 4);
        gives("e>5?t;(t+k+d)%6", 2);
    }

    private static void names() {
        gives("t", 2);
        gives("e-4", 3);
        gives("k", 3);
        gives("p-51", 4);
        gives("d-29", 2);
        TwoAgree x = Due.island(0, 0, 0, 0);
        Due.law(x, "c+1");
        for (int c = 0; c < 4; c++) {
            Due.is("8: c", x.says(c), c + 1);
        }
        x.paid(2, 0);
        Due.is("8: bought goes ahead of the law", x.says(2), 0);
    }

    private static void lawStays() {
        TwoAgree x = Due.island(0);
        Due.is("8: without a text", x.says(0), 0);
        Due.is("7: a fault", Due.law(x, "4+"), -102);
        Due.is("8: still without", x.says(0), 0);
        Due.is("7: a law", Due.law(x, "4"), 1);
        Due.is("7: a fault", Due.law(x, "3)"), -101);
        Due.is("8: the law stays", x.says(0), 4);
        Due.is("7: the empty tape", x.law(), -100);
        Due.is("8: the law stays", x.says(0), 4);
        Due.is("7: another law", Due.law(x, "t+1"), 1);
        Due.is("8: by it", x.says(0), 1);
    }

    private static void longest() {
        StringBuilder text = new StringBuilder();
        for (int i = 0; i < 60; i++) {
            text.append("1+");
        }
        TwoAgree x = Due.island(0);
        Due.is("7: ends too early at 120", Due.law(x, text.toString()), -220);
        text.setLength(119);
        text.append('0');
        Due.is("7: 120 bytes", Due.law(x, text.toString()), 1);
        Due.is("8: held within 5", x.says(0), 5);
        StringBuilder many = new StringBuilder();
        for (int i = 0; i < 29; i++) {
            many.append("0?5;");
        }
        Due.is("7: thirty lines", Due.law(x, many + "0?2"), 1);
        Due.is("8: none counts", x.says(0), 0);
        Due.is("7: thirty lines", Due.law(x, many + "1?2"), 1);
        Due.is("8: the last counts", x.says(0), 2);
    }
}
