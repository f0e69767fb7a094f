/** The bounds that stand in part 1 of the terms, each at its last number and one step beyond. */
public final class Part1Test {
    private static final int BAD = -1, NOT = -2, FULL = -3;
    private static final String DIGITS = "0123456789", OPENING = "!-(", NAMES = "tekpdc";
    private static final String OPERAND = DIGITS + NAMES + OPENING;
    private static final String JOINING = "|&+-*/%", COMPARING = "<=>";

    public static void main(String[] args) {
        citizensAsTheyCome();
        citizensOfARow();
        firstNumbers();
        tapeOf120();
        bytesThatGoOn();
        bytesThatGoOnInBrackets();
        sixOpenAtOnce();
        numbersOfFourDigits();
        linesOneOrMore();
        endsTooEarly();
        heldWithin();
        intsThatWrap();
        byZero();
        ranks();
        truths();
        firstLineThatCounts();
        withoutAText();
        boughtSays();
        twoAgree();
        twoAgreeAsTheLaterComes();
        fortyClaims();
        claimsEnd();
        whoWasThereAlready();
        Due.end("Part1Test");
    }

    // ---- "CITIZENS 0 .. 9, as they come: KIN (0 .. 7), EYE (0 .. 12), PRICE (0 .. 99)"

    private static void citizensAsTheyCome() {
        TwoAgree x = new TwoAgree();
        Due.bytes(x, 0, 4, 12, 99, 5, 0, 0, 1, 1, 1, 1, 1, 1, 1, 1, 1, 1, 1, 1, 1, 1, 1);
        Due.is("1: the first", x.citizen(7), 0);
        Due.is("1: one of a row", x.citizens(0, 0, 1), 1);
        Due.is("1: the third", x.citizen(0), 2);
        Due.is("1: six of a row", x.citizens(0, 3, 6), 6);
        Due.is("1: kin of the second", x.of(1, 0), 4);
        Due.is("1: kin of the fourth", x.of(3, 0), 5);
        Due.is("1: the tenth", x.citizen(6), 9);
        Due.is("1: an eleventh", x.citizen(6), FULL);
        Due.is("1: an eleventh of a row", x.citizens(0, 0, 10), 0);
        Due.is("1: ten", x.count(0), 10);
        Due.is("1: the tenth is as he was", x.of(9, 0), 6);
    }

    private static void citizensOfARow() {
        int[] three = {3, 3, 3};
        int[] most = {7, 12, 99};
        for (int what = 0; what < 3; what++) {
            for (int v : new int[] {-128, -1, 0, most[what], most[what] + 1, 127}) {
                TwoAgree x = new TwoAgree();
                int[] bytes = three.clone();
                bytes[what] = v;
                Due.bytes(x, 1, bytes);
                boolean comes = v >= 0 && v <= most[what];
                Due.is("3: " + what + " of " + v, x.citizens(1, 0, 1), comes ? 1 : 0);
                Due.is("3: he is there", x.of(0, what), comes ? v : TwoAgree.VOID);
            }
        }
    }

    private static void firstNumbers() {
        TwoAgree x = Due.island(5);
        int[] first = {5, 9, 10, -1, 0, 0, 0};
        for (int what = 0; what < 7; what++) {
            Due.is("1: first " + what, x.of(0, what), first[what]);
        }
    }

    // ---- "THE LAW is a TEXT by THE TAPE (at most 120 bytes)"

    private static void tapeOf120() {
        TwoAgree x = Due.island(0);
        Islands.feed(x, "0003" + "+0".repeat(57));
        Due.is("6: the 119th", x.feed('+'), 119);
        Due.is("6: the 120th", x.feed('1'), 120);
        Due.is("6: the 121st", x.feed('1'), FULL);
        Due.is("6: BAD ahead of FULL", x.feed(-1), BAD);
        Due.is("6: still 120", x.count(2), 120);
        Due.is("7: all of it", x.law(), 1);
        Due.is("8: the last byte counts", x.says(0), 4);
        Due.is("6: anew", x.feed('t'), 1);
        Due.is("7: what was on it is gone", x.law(), 1);
        Due.is("8: by one byte", x.says(0), 0);
    }

    // ---- "FAULT: the place of the first byte with which no TEXT goes on; the length, if it ends too early"

    /** Behind a beginning just these bytes go on; every other of the 256 is the fault. */
    private static void goOn(String beginning, String bytes) {
        for (int letter = 0; letter < 256; letter++) {
            TwoAgree x = new TwoAgree();
            Islands.feed(x, beginning);
            x.feed(letter);
            int answer = x.law();
            int place = beginning.length();
            if (bytes.indexOf((char) letter) < 0) {
                Due.is("7: " + beginning + " and byte " + letter, answer, -100 - place);
            } else {
                boolean goesOn = answer == 1 || answer == -100 - place - 1;
                Due.holds("7: " + beginning + " goes on with byte " + letter + ", not " + answer, goesOn);
            }
        }
    }

    private static void bytesThatGoOn() {
        String all = JOINING + COMPARING + "?;";
        goOn("", OPERAND);
        goOn("t", all);
        goOn("c", all);
        goOn("7", DIGITS + all);
        goOn("t-", OPERAND);
        goOn("t%", OPERAND);
        goOn("t<", OPERAND);
        goOn("t|", OPERAND);
        goOn("t?", OPERAND);
        goOn("t;", OPERAND);
        goOn("!", OPERAND);
        goOn("-", OPERAND);
        goOn("!t", all);
        goOn("-9", DIGITS + all);
        goOn("t<e", JOINING + "?;");
        goOn("t=e", JOINING + "?;");
        goOn("t>e+k*p", JOINING + "?;");
        goOn("t<e&k", all);
        goOn("t<e|k", all);
        goOn("t<e;k", all);
        goOn("t<e?k", JOINING + COMPARING + ";");
        goOn("t?e", JOINING + COMPARING + ";");
        goOn("t?e>k", JOINING + ";");
        goOn("t?e;k", all);
        goOn("t?e;k?p", JOINING + COMPARING + ";");
    }

    private static void bytesThatGoOnInBrackets() {
        String all = JOINING + COMPARING;
        goOn("(", OPERAND);
        goOn("(t", all + ")");
        goOn("(t<e", JOINING + ")");
        goOn("(t<e&k", all + ")");
        goOn("(t<e)", all + "?;");
        goOn("t<(e>k)", JOINING + "?;");
        goOn("(t)?(e", all + ")");
        goOn("(t<(e", all + ")");
        goOn("(t<(e))", all + "?;");
        goOn("((t)", all + ")");
        goOn("-(!t)", all + "?;");
    }

    /** "At most 6 of ( ! - ahead of an O are open at once." */
    private static void sixOpenAtOnce() {
        String shut = DIGITS + NAMES;
        String[] five = {"(((((", "!!!!!", "-----", "(!-(!", "-(!-(", "((((((t)+", "!!!!!!t+(((!(", "(((((!t+",
            "t?(((((", "t?!-!-!", "t;(((((", "t?e;(-(-(", "t<(((((", "t&!!!!!"};
        String[] six = {"((((((", "!!!!!!", "------", "(!-(!-", "-(!-(!", "((((((t+", "!!!!!!t*((((((", "(((((!t+-",
            "t?((((((", "t?!-!-!-", "t;((((((", "t?e;(-(-(-", "t<((((((", "t&!!!!!!"};
        for (String beginning : five) {
            goOn(beginning, OPERAND);
        }
        for (String beginning : six) {
            goOn(beginning, shut);
        }
        goOn("((((((t", JOINING + COMPARING + ")");
        goOn("((((((t)", JOINING + COMPARING + ")");
        goOn("((((((t))))))", JOINING + COMPARING + "?;");
        goOn("!!!!!!t", JOINING + COMPARING + "?;");
        goOn("------7", DIGITS + JOINING + COMPARING + "?;");
        goOn("((((((t))))))+", OPERAND);
        goOn("!!!!!!t?", OPERAND);
        goOn("!!!!!!t;", OPERAND);
    }

    /** "a number (1 to 4 digits)" */
    private static void numbersOfFourDigits() {
        String after = JOINING + COMPARING + "?;";
        goOn("0", DIGITS + after);
        goOn("90", DIGITS + after);
        goOn("900", DIGITS + after);
        goOn("9009", after);
        goOn("t+123", DIGITS + after);
        goOn("t+1234", after);
        goOn("12;345", DIGITS + after);
        goOn("12;3456", after);
        goOn("1234+1", DIGITS + after);
    }

    /** "LINES, one or more, parted by ;" */
    private static void linesOneOrMore() {
        Due.is("7: none", new TwoAgree().law(), -100);
        Due.is("7: one", Due.law(new TwoAgree(), "t"), 1);
        Due.is("7: two", Due.law(new TwoAgree(), "t;t"), 1);
        Due.is("7: sixty", Due.law(new TwoAgree(), "t;".repeat(59) + "t"), 1);
        Due.is("7: an empty one ahead", Due.law(new TwoAgree(), ";t"), -100);
        Due.is("7: an empty one between", Due.law(new TwoAgree(), "t;;t"), -102);
        Due.is("7: an empty one behind", Due.law(new TwoAgree(), "t;t;"), -104);
    }

    private static void endsTooEarly() {
        String[] open = {"t+", "t<", "t?", "t;", "!", "-", "(", "(t", "((t)", "t?e;(", "(t<e", "t|", "t&", "1*"};
        for (String text : open) {
            Due.is("7: " + text + " ends too early", Due.law(new TwoAgree(), text), -100 - text.length());
        }
        Due.is("7: 120 bytes end too early", Due.law(new TwoAgree(), "t+".repeat(60)), -220);
        Due.is("7: 119 bytes of them are a text", Due.law(new TwoAgree(), "t+".repeat(59) + "t"), 1);
        Due.is("7: fault at the last byte", Due.law(new TwoAgree(), "t+".repeat(59) + "tt"), -219);
    }

    // ---- what the law gives

    private static void gives(String text, int due) {
        TwoAgree x = Due.island(0);
        x.mend(0, 4, 3);
        Due.is("7: " + text, Due.law(x, text), 1);
        Due.is("8: " + text, x.says(0), due);
    }

    /** "held within 0 .. 5" */
    private static void heldWithin() {
        gives("-9999", 0);
        gives("-1", 0);
        gives("0", 0);
        gives("1", 1);
        gives("4", 4);
        gives("5", 5);
        gives("6", 5);
        gives("9999", 5);
    }

    /** "Ints that wrap": 8192 * 8192 * 32 is one step beyond the greatest. */
    private static void intsThatWrap() {
        gives("8192*8192*32<0", 1);
        gives("8192*8192*32-1>0", 1);
        gives("8192*8192*32-1+1<0", 1);
        gives("8192*8192*64", 0);
        gives("8192*8192*64+2", 2);
        gives("-(8192*8192*32)=8192*8192*32", 1);
        gives("8192*8192*32/-1=8192*8192*32", 1);
        gives("8192*8192*32%-1+4", 4);
        gives("8192*8192*32*-1<0", 1);
    }

    /** "/ and % toward 0, by 0 they give 0" */
    private static void byZero() {
        gives("7/0", 0);
        gives("7%0", 0);
        gives("7/(t-3)+2", 2);
        gives("7%(t-3)+2", 2);
        gives("0/0+1", 1);
        gives("7/1", 5);
        gives("4/1", 4);
        gives("4%1", 0);
        gives("-7/2+5", 2);
        gives("7/-2+5", 2);
        gives("-7%2+5", 4);
        gives("7%-2+3", 4);
        gives("1/2+1", 1);
        gives("-1/2+1", 1);
    }

    /** "E = A { | A }. A = B { & B }. B = S < S. S = P { + P, - P }. P = O { * O, / O, % O }.": which binds first. */
    private static void ranks() {
        gives("1+1*3", 4);
        gives("1*1+3", 4);
        gives("5-4/2", 3);
        gives("5-4%3", 4);
        gives("4%3-1+2", 2);
        gives("1+3=4", 1);
        gives("4=1+3", 1);
        gives("4>1+3", 0);
        gives("4-1>3", 0);
        gives("2=2&0", 0);
        gives("0&2=0", 0);
        gives("1|1&0", 1);
        gives("0&1|1", 1);
        gives("!2+3", 3);
        gives("!(2-2)*3", 3);
        gives("-2+5", 3);
        gives("!0*4", 4);
        gives("-1*-4", 4);
        gives("5-2-1", 2);
        gives("5-2+1", 4);
        gives("9/3/3", 1);
        gives("7%4*2/3", 2);
        gives("2*7%4", 2);
        gives("(1+1)*2", 4);
        gives("4-(2-1)", 3);
        gives("(2=2)=1", 1);
        gives("2=(2=1)", 0);
    }

    /** "| & < = > ! give 1, 0; all is worked out" */
    private static void truths() {
        gives("5|0", 1);
        gives("0|5", 1);
        gives("0|0", 0);
        gives("5&4", 1);
        gives("5&0", 0);
        gives("0&5", 0);
        gives("-1|0", 1);
        gives("-1&-1", 1);
        gives("2<3", 1);
        gives("3<3", 0);
        gives("3>2", 1);
        gives("3>3", 0);
        gives("3=3", 1);
        gives("3=4", 0);
        gives("!0", 1);
        gives("!1", 0);
        gives("!-1", 0);
        gives("1|1/0", 1);
        gives("0&1/0|3", 1);
    }

    /** "The first LINE without a first E, or whose first E is not 0, counts; none: 0." */
    private static void firstLineThatCounts() {
        gives("0?1;0?2;4", 4);
        gives("0?1;2?2;4", 2);
        gives("-1?1;2?2;4", 1);
        gives("3;1?2", 3);
        gives("0;4", 0);
        gives("0?5", 0);
        gives("0?5;0?4", 0);
        gives("1?0;4", 0);
        gives("0?5;".repeat(29) + "3", 3);
        gives("0?5;".repeat(29) + "0?3", 0);
    }

    /** "Without a text: t, if e is 6 or more, else t and 1 (5 at most)." */
    private static void withoutAText() {
        TwoAgree x = Due.island(0, 0, 0, 0);
        int[] eyes = {0, 5, 6, 12};
        for (int c = 0; c < 4; c++) {
            x.mend(c, 1, eyes[c]);
        }
        for (int t = 0; t < 6; t++) {
            x.mend(0, 4, t);
            int more = t == 5 ? 5 : t + 1;
            Due.is("8: EYE 0", x.says(0), more);
            Due.is("8: EYE 5", x.says(1), more);
            Due.is("8: EYE 6", x.says(2), t);
            Due.is("8: EYE 12", x.says(3), t);
        }
    }

    /** "One who is BOUGHT SAYS that.": -1 alone is not bought. */
    private static void boughtSays() {
        TwoAgree x = Due.island(0);
        x.mend(0, 4, 3);
        for (int w = 5; w >= 0; w--) {
            x.mend(0, 3, w);
            Due.is("8: bought for " + w, x.says(0), w);
        }
        x.mend(0, 3, -1);
        Due.is("8: not bought", x.says(0), 3);
        Due.is("7: a law", Due.law(x, "1"), 1);
        Due.is("8: by the law", x.says(0), 1);
        x.mend(0, 3, 0);
        Due.is("8: bought for 0", x.says(0), 0);
    }

    // ---- "Two AGREE, if they are of unlike KIN, and what they SAY is no more than WIDE apart"

    private static void twoAgree() {
        TwoAgree x = Due.island(2, 3);
        for (int wide = 0; wide < 3; wide++) {
            x.mend(0, 5, wide);
            for (int a = 0; a < 6; a++) {
                x.paid(0, a);
                for (int b = 0; b < 6; b++) {
                    x.paid(1, b);
                    boolean agree = Math.abs(a - b) <= wide;
                    String what = "1: " + a + " and " + b + ", WIDE " + wide;
                    Due.is(what, x.all(1), agree ? 1 : 0);
                    Due.is(what + " on the lesser", x.all(0), agree ? 1 << Math.min(a, b) : 0);
                }
            }
        }
        TwoAgree kin = Due.island(3, 3);
        Due.is("1: of like KIN", kin.all(1), 0);
        kin.mend(1, 0, 4);
        Due.is("1: of unlike KIN", kin.all(1), 1);
        kin.marry(43);
        Due.is("1: of like KIN by a marriage", kin.all(1), 0);
    }

    /** "by what they SAY as the later one comes" */
    private static void twoAgreeAsTheLaterComes() {
        for (int wide = 0; wide < 3; wide++) {
            for (int later = 0; later < 6; later++) {
                TwoAgree x = Due.island(2, 3);
                x.mend(0, 5, wide);
                Due.is("24: the first one says 0", x.claim(0), 0);
                x.paid(0, 3);
                x.paid(1, later);
                boolean agree = Math.abs(3 - later) <= wide;
                Due.is("24: 3 and " + later, x.claim(1), agree ? 1 << Math.min(3, later) : 0);
                x.paid(0, 5);
                x.paid(1, 5);
                x.citizen(4);
                x.paid(2, 0);
                Due.is("24: the two there do not agree anew", x.claim(2), 0);
            }
        }
    }

    // ---- "CLAIMS: ... 40 at most; it ends with what is none; one who was there already counts for nothing more"

    private static void fortyClaims() {
        TwoAgree x = Due.island(0, 1);
        for (int size = 39; size <= 41; size++) {
            for (int place = 37; place < size; place++) {
                int[] row = new int[size];
                row[place] = 1;
                Due.bytes(x, 0, row);
                String what = "11: one of " + size + " at " + place;
                boolean counts = place < 40;
                Due.is(what + " behind 40", x.claims(0, 40, 0), counts ? 1 : 0);
                Due.is(what + " by which", x.claims(0, 40, 1), counts ? place : NOT);
                Due.is(what + " how many", x.claims(0, 40, 2), counts ? 2 : 1);
                Due.is(what + " ahead of it", x.claims(0, Math.min(40, place), 0), 0);
                Due.is(what + " by which ahead of it", x.claims(0, Math.min(40, place), 1), NOT);
                Due.is("12: " + what, x.happens(0, 0), counts ? place + 1 : NOT);
            }
        }
        Due.bytes(x, 0, 0, 1);
        Due.is("11: the first 0", x.claims(0, 0, 2), 0);
        Due.is("11: the first 1", x.claims(0, 1, 2), 1);
        Due.is("11: the first 40 of two", x.claims(0, 40, 2), 2);
        Due.is("11: the first 41", x.claims(0, 41, 2), BAD);
        Due.is("11: the first -1", x.claims(0, -1, 2), BAD);
    }

    private static void claimsEnd() {
        TwoAgree x = Due.island(0, 1, 2);
        for (int none : new int[] {-128, -1, 3, 4, 9, 10, 127}) {
            Due.bytes(x, 0, 0, none, 1, 2);
            Due.is("11: it ends with " + none, x.claims(0, 40, 2), 1);
            Due.is("11: it ends with " + none, x.claims(0, 40, 0), 0);
            Due.is("12: it ends with " + none, x.happens(0, 0), NOT);
        }
        Due.bytes(x, 0, 0, 2, 3, 1);
        Due.is("11: 2 is the last citizen", x.claims(0, 40, 2), 2);
        Due.is("12: 2 is the last citizen", x.happens(0, 0), 2);
        x.citizen(3);
        Due.is("11: 3 has come", x.claims(0, 40, 2), 4);
        Due.bytes(x, 0);
        Due.is("11: a row of none", x.claims(0, 40, 2), 0);
        Due.is("11: a row of none", x.claims(0, 40, 1), NOT);
        Due.is("12: a row of none", x.happens(0, 0), NOT);
    }

    private static void whoWasThereAlready() {
        TwoAgree x = Due.island(0, 0, 1);
        Due.bytes(x, 0, 0, 0, 1, 0, 1, 2, 2, 0);
        Due.is("11: how many", x.claims(0, 5, 2), 2);
        Due.is("11: none by these", x.claims(0, 5, 1), NOT);
        Due.is("11: by the sixth", x.claims(0, 40, 1), 5);
        Due.is("12: behind six", x.happens(0, 0), 6);
        Due.is("11: three in all", x.claims(0, 40, 2), 3);
    }
}
