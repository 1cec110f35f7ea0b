import java.util.function.Supplier;

/** The edges of promises 7 to 11, and of the expressions that the Terms tell: sign, end, law, filter, value. */
public final class TextsEdgesTest {
    private static final Due due = new Due("edges of texts");

    public static void main(String[] args) {
        sixtySigns();
        highestByteFirst();
        ends();
        noSuchText();
        wrongTextsChangeNothing();
        fortySigns();
        endsTooEarly();
        signsThatBegin();
        signsBehindAThing();
        digits();
        parentheses();
        comparisons();
        aheadOfAThing();
        binding();
        asInts();
        oneOrNothing();
        everySign();
        toldAnew();
        toldNow();
        valueArguments();
        due.end();
    }

    /** Each text as a law and as a filter: both answer so. */
    private static void both(String text, int want) {
        NamesOnLetters x = new NamesOnLetters();
        due.is("law " + text, Due.law(x, 3, text), want);
        due.call(x, want == 0 ? 8 : 0, "count", 5);
        due.call(x, 0, "count", 9);
        due.is("filter " + text, Due.filter(x, 4, text), want);
        due.call(x, want == 0 ? 16 : 0, "count", 6);
        due.call(x, 0, "count", 9);
    }

    private static String times(String text, int n) {
        StringBuilder all = new StringBuilder();
        for (int k = 0; k < n; k++) {
            all.append(text);
        }
        return all.toString();
    }

    private static NamesOnLetters withSigns(int n) {
        NamesOnLetters x = States.unwritten();
        x.end(0);
        for (int k = 0; k < n; k += 4) {
            x.sign(0x312b312b + k);
        }
        due.call(x, 1, "end", n);
        return x;
    }

    private static void sixtySigns() {
        due.says("7: Four signs come behind THE TEXT: how many it has. Refused: there would be more than 60");
        for (int n = 0; n <= 56; n++) {
            due.call(withSigns(n), n + 4, "sign", 0x31313131);
        }
        for (int n = 57; n <= 60; n++) {
            int signs = n;
            due.nothing(() -> withSigns(signs), -1, "sign", 0x31313131);
            due.nothing(() -> withSigns(signs), -1, "sign", 0);
        }
    }

    private static void highestByteFirst() {
        due.says("7: of v the highest byte first");
        NamesOnLetters x = States.unwritten();
        x.letter(0, 0, 0, 0, 0);
        int[][] cases = {{0x312d3635, -64}, {0x2d333632, -362}, {0x39393920, 0}};
        for (int[] c : cases) {
            x.end(0);
            due.call(x, 4, "sign", c[0]);
            due.call(x, c[1] == 0 ? -4 : 0, "law", 1);
        }
        due.call(x, -362, "value", 1, 0);
        // signs above 127, and a number below 0, are signs like others
        int[] wrong = {0x80312b31, 0x31ff2b31, 0x312bfe31, 0x312b31e9, -1, Integer.MIN_VALUE, 0};
        int[] places = {0, 1, 2, 3, 0, 0, 0};
        for (int k = 0; k < wrong.length; k++) {
            due.call(x, 4, "sign", wrong[k]);
            due.call(x, -1 - places[k], "law", 1);
            due.call(x, 4, "sign", wrong[k]);
            due.call(x, -1 - places[k], "filter", 1);
        }
        due.says("7: behind THE TEXT");
        due.call(x, 4, "sign", 0x312b3120);
        due.call(x, 1, "end", 3);
        due.call(x, 7, "sign", 0x2b312b38);
        due.call(x, 0, "law", 1);
        due.call(x, 11, "value", 1, 0);
    }

    private static void ends() {
        due.says("8: THE TEXT has its first n signs alone: true; false if it has not so many, or n is below 0");
        for (int signs : new int[] {0, 1, 4, 59, 60}) {
            int n = signs;
            int[] not = {n + 1, n + 4, 61, 64, -1, -n - 1, Integer.MIN_VALUE, Integer.MAX_VALUE};
            for (int v : not) {
                due.nothing(() -> withSigns(n), 0, "end", v);
            }
            due.nothing(() -> withSigns(n), 1, "end", n);
            if (n > 0) {
                due.alike(() -> withSigns(n), () -> withSigns(n - 1), 1, "end", n - 1);
                due.alike(() -> withSigns(n), () -> withSigns(0), 1, "end", 0);
            }
        }
    }

    private static NamesOnLetters emptied() {
        NamesOnLetters x = States.rich();
        x.end(0);
        return x;
    }

    private static NamesOnLetters richWith(String text) {
        NamesOnLetters x = emptied();
        Due.tell(x, text);
        return x;
    }

    private static void noSuchText() {
        due.says("9, 10: -100: no such LAW (asked first; THE TEXT is empty then, too)");
        for (String text : new String[] {"w", "", "+", "w+", times("w+", 21), "((((((1))))))"}) {
            for (int i : new int[] {-1, 6, Integer.MIN_VALUE, Integer.MAX_VALUE}) {
                due.alike(() -> richWith(text), TextsEdgesTest::emptied, -100, "law", i);
                due.alike(() -> richWith(text), TextsEdgesTest::emptied, -100, "filter", i);
            }
        }
        for (int i = 0; i < 6; i++) {
            due.call(richWith("w"), 0, "law", i);
            due.call(richWith("w"), 0, "filter", i);
            NamesOnLetters x = new NamesOnLetters();
            due.is("law " + i, Due.law(x, i, "1"), 0);
            due.call(x, 1 << i, "count", 5);
            due.call(x, 0, "count", 6);
            due.is("filter " + i, Due.filter(x, i, "1"), 0);
            due.call(x, 1 << i, "count", 6);
        }
    }

    private static void wrongTextsChangeNothing() {
        due.says("Refused calls change nothing but THE TEXT, which a call that reads it empties");
        String[] wrong = {"", "w+", "+", "w1", "1234", "(w", "w)", "1<2<3", "z", times("1+", 20), times("1+", 20) + "1"};
        int[] places = {0, 2, 0, 1, 3, 2, 1, 3, 0, 40, 40};
        for (int k = 0; k < wrong.length; k++) {
            String text = wrong[k];
            for (int i : new int[] {0, 1, 2, 5}) {
                due.alike(() -> richWith(text), TextsEdgesTest::emptied, -1 - places[k], "law", i);
                due.alike(() -> richWith(text), TextsEdgesTest::emptied, -1 - places[k], "filter", i);
            }
        }
        due.says("r in a FILTER alone, n k m in a LAW alone");
        due.alike(() -> richWith("w+r"), TextsEdgesTest::emptied, -3, "law", 0);
        for (String house : new String[] {"n", "k", "m"}) {
            due.alike(() -> richWith("w+" + house), TextsEdgesTest::emptied, -3, "filter", 1);
        }
    }

    private static void fortySigns() {
        due.says("texts of at most 40 signs; 40, if it has more and the first 40 could go on or end");
        String ahead = times("!", 37);
        both(ahead + "1", 0);
        both(ahead + "12", 0);
        both(ahead + "123", 0);
        both(ahead + "!123", -41);
        both(ahead + "1234", -41);
        both(ahead + "!1234", -41);
        both(ahead + "123+", -41);
        both(ahead + "123)", -41);
        both(ahead + "123z", -41);
        both(times("!", 39) + "1", 0);
        both(times("!", 40), -41);
        both(times("!", 40) + "1", -41);
        both(times("!", 60), -41);
        both(times("!", 39) + "z", -40);
        both(times("!", 39) + "z1", -40);
        both(times("!", 38) + "zz1", -39);
        both(times("!", 40) + "z", -41);
        both(times("1+", 20), -41);
        both(times("1+", 19) + "1", 0);
        both(times("1+", 30), -41);
        both(times("1+", 19) + "12", 0);
        both(times("1+", 19) + "12)", -41);
        both(times("1+", 18) + "1234" + times("+1", 10), -40);
        both(times("1+", 18) + "(12+", -41);
        both(times("1+", 18) + "(12)", 0);
        both(times("1+", 18) + "(123", -41);
        both(times("1+", 18) + "(123)", -41);
        both("z" + times("1+", 25), -1);
        both(times("1+", 19) + "+1" + times("+1", 5), -39);
    }

    private static void endsTooEarly() {
        due.says("-1 - p: its end, if it ends too early; an empty text can't stand");
        String[] texts = {"", "!", "-", "(", "1+", "1-", "1*", "1<", "1>", "1=", "1&", "1|", "(1", "(1+", "((1)", "1+(",
            "!!", "1+!", "1<2&", "(((((1", "(((((1))))"};
        for (String text : texts) {
            both(text, -1 - text.length());
        }
    }

    private static void signsThatBegin() {
        due.says("things: a NUMBER, an EXPRESSION in ( ), a SIGN");
        for (int c = 0; c < 256; c++) {
            String text = String.valueOf((char) c);
            boolean open = c == '!' || c == '-' || c == '(';
            boolean always = "wesdpxcato0123456789".indexOf(c) >= 0;
            NamesOnLetters x = new NamesOnLetters();
            int law = always || "nkm".indexOf(c) >= 0 ? 0 : open ? -2 : -1;
            int filter = always || c == 'r' ? 0 : open ? -2 : -1;
            due.is("law of sign " + c, Due.law(x, 0, text), law);
            due.is("filter of sign " + c, Due.filter(x, 0, text), filter);
            // the same behind what wants a thing
            due.is("law of 1+ and sign " + c, Due.law(x, 0, "1+" + text), law == 0 ? 0 : law - 2);
            due.is("filter of (! and sign " + c, Due.filter(x, 0, "(!" + text + ")"),
                    filter == 0 ? 0 : c == '!' || c == '-' || c == '(' ? -4 : -3);
        }
    }

    private static void signsBehindAThing() {
        due.says("the sign at p can't stand there");
        for (int c = 0; c < 256; c++) {
            boolean joins = "|&<>=+-*".indexOf(c) >= 0;
            boolean digit = c >= '0' && c <= '9';
            both("w" + (char) c + "1", joins ? 0 : -2);
            both("(w)" + (char) c + "1", joins ? 0 : -4);
            both("1" + (char) c + "1", joins || digit ? 0 : -2);
            both("(1" + (char) c, joins || digit ? -4 : c == ')' ? 0 : -3);
            both("1" + (char) c, joins ? -3 : digit ? 0 : -2);
        }
    }

    private static void digits() {
        due.says("a NUMBER of 1 to 3 digits");
        String[] good = {"0", "9", "10", "99", "100", "999", "000", "001", "1+999", "(999)", "-999", "!000"};
        for (String text : good) {
            both(text, 0);
        }
        String[] wrong = {"0000", "1000", "9999", "0001", "12345", "1+1000", "(1000)", "-1000", "w1", "1w", "99w", "999w",
            "(1)1", "1(1)", "1 1", "1.5"};
        int[] places = {3, 3, 3, 3, 3, 5, 4, 4, 1, 1, 2, 3, 3, 1, 1, 1};
        for (int k = 0; k < wrong.length; k++) {
            both(wrong[k], -1 - places[k]);
        }
        String[] texts = {"0", "9", "10", "99", "100", "999", "000", "001", "010", "099", "-999", "12+345"};
        int[] want = {0, 9, 10, 99, 100, 999, 0, 1, 10, 99, -999, 357};
        for (int k = 0; k < texts.length; k++) {
            value(texts[k], want[k]);
        }
    }

    private static void value(String text, int want) {
        NamesOnLetters x = States.unwritten();
        x.end(0);
        x.letter(0, 0, 7, 0, 0);
        due.is("law " + text, Due.law(x, 1, text), 0);
        due.is("value of " + text, Calls.call(x, "value", 1, 0), want);
        x.ring(0, true);
        Due.filter(x, 1, text);
        due.is("share by " + text, Calls.call(x, "share", 1), want == 0 ? 0 : 1);
    }

    private static void parentheses() {
        due.says("an EXPRESSION in ( ) (at most 5 in one another)");
        for (int n = 1; n <= 5; n++) {
            both(times("(", n) + "1" + times(")", n), 0);
            both(times("(1+", n) + "1" + times(")", n), 0);
            both(times("(", n) + "1" + times(")", n + 1), -2 - 2 * n);
            both(times("(", n) + "1" + times(")", n - 1), -1 - 2 * n);
        }
        both("((((((1))))))", -6);
        both("(((((()))))", -6);
        both("((((((((", -6);
        both("(1+(1+(1+(1+(1+(1))))))", -16);
        both("(((((1)+(1)))))", 0);
        both("(((((1)+((1))))))", -10);
        both("(((((1)))))+(((((1)))))", 0);
        both("(((((1)))))+((((((1))))))", -18);
        both("1+!-(-!(!!(--(-(1)))))", 0);
        both("1+!-(-!(!!(--(-((1))))))", -17);
        both("()", -2);
        both(")", -1);
        both("(1)(1)", -4);
        value("(((((1)+(1)))))", 2);
        value("(1+(2*(3-(4*(5-6)))))", 15);
    }

    private static void comparisons() {
        due.says("< > = (two; 1 or 0; not one behind the other)");
        for (char a : "<>=".toCharArray()) {
            for (char b : "<>=".toCharArray()) {
                both("1" + a + "2" + b + "3", -4);
                both("(1" + a + "2)" + b + "3", 0);
                both("1" + a + "(2" + b + "3)", 0);
                both("1" + a + "2&2" + b + "3", 0);
                both("1" + a + "2|2" + b + "3", 0);
                both("1" + a + "2+2" + b + "3", -6);
                both("1" + a + "2-2" + b + "3", -6);
                both("1" + a + "2*2" + b + "3", -6);
                both("1" + a + "!2" + b + "3", -5);
                both("1" + a + "(2)" + b + "3", -6);
                both("(1" + a + "2" + b + "3)", -5);
                both("1" + a + b + "2", -3);
                both("1" + a + "2&2" + b + "3" + a + "4", -8);
                both("1" + a + "(2" + b + "3)" + a + "4", -8);
                both("(1" + a + "2)+(2" + b + "3)", 0);
                both("(1" + a + "2)" + b + "(2" + b + "3)", 0);
                both("(1" + a + "2)" + b + "(2" + b + "3)" + a + "4", -12);
                both("(1" + a + "2" + ")&1" + b + "2&1" + b + "2", 0);
                both("((1" + a + "(2" + b + "3))" + a + "4)", 0);
                both("((1" + a + "(2" + b + "3)" + a + "4))", -10);
            }
        }
        int[][] pairs = {{1, 2}, {2, 2}, {3, 2}};
        for (int[] p : pairs) {
            value(p[0] + "<" + p[1], p[0] < p[1] ? 1 : 0);
            value(p[0] + ">" + p[1], p[0] > p[1] ? 1 : 0);
            value(p[0] + "=" + p[1], p[0] == p[1] ? 1 : 0);
        }
    }

    private static void aheadOfAThing() {
        due.says("! and - ahead of a thing (any many)");
        for (int n = 1; n <= 39; n++) {
            both(times("!", n) + "1", 0);
            value(times("!", n) + "5", n % 2 == 0 ? 1 : 0);
            value(times("-", n) + "5", n % 2 == 0 ? 5 : -5);
        }
        String[] texts = {"!-!0", "-!0", "!-0", "!!7", "5--3", "5---3", "5-!0", "5*-2", "-5<-2", "5=--5", "5+!!9", "-w",
            "!w", "-(1+2)", "!(1-1)", "!-!-!5", "5*!0", "0-5"};
        int[] want = {0, -1, 1, 1, 8, 2, 4, -10, 1, 1, 6, -7, 0, -3, 1, 0, 5, -5};
        for (int k = 0; k < texts.length; k++) {
            value(texts[k], want[k]);
        }
    }

    private static void binding() {
        due.says("| binds least, then &, then < > =, then + - (from the left), then * (from the left), then ! and -");
        String[] texts = {"1|0&0", "0&0|1", "1|1&0", "2=2&2", "2&2=2", "3&1<1", "3+1=4", "4=1+3", "9<4+6", "2+3*4",
            "2*3+4", "2-3*4", "!0*5", "!1+1", "!0=2", "!1&0", "!1|1", "-1+2", "-1|0", "-1&1", "-1<0", "9-4-3", "9-4+3",
            "9-(4-3)", "9-(4+3)", "2*3*4", "9-2*3-1", "1<2|0", "0|1<2", "5|1=2", "(5|1)=1", "0&1|1", "0&(1|1)",
            "1|0=0", "(1|0)=0", "1=0|1", "1=(0|1)", "-2*-3", "-2-3", "!2-3", "8>3+4&1", "8>3+5|0"};
        int[] want = {1, 1, 1, 1, 1, 0, 1, 1, 1, 14,
            10, -10, 5, 1, 0, 0, 1, 1, 1, 1, 1, 2, 8,
            8, 2, 24, 2, 1, 1, 1, 1, 1, 0,
            1, 0, 1, 1, 6, -5, -3, 1, 0};
        for (int k = 0; k < texts.length; k++) {
            value(texts[k], want[k]);
        }
    }

    private static void asInts() {
        due.says("As ints");
        // 512 times 512 times 512 is 2 to the 27th
        value("512*512*512*15", 2013265920);
        value("512*512*512*16", Integer.MIN_VALUE);
        value("512*512*512*16-1", Integer.MAX_VALUE);
        value("512*512*512*16-1+1", Integer.MIN_VALUE);
        value("-(512*512*512*16)", Integer.MIN_VALUE);
        value("512*512*512*32", 0);
        value("512*512*512*17", Integer.MIN_VALUE + (1 << 27));
        value("512*512*512*16<0", 1);
        value("512*512*512*16-1>0", 1);
        value("512*512*512*16<512*512*512*16-1", 1);
        value("512*512*512*16>512*512*512*16-1", 0);
        value("512*512*512*32=0", 1);
        value("999*999*999*999", 999 * 999 * 999 * 999);
        value("!(512*512*512*16)", 0);
        value("512*512*512*16&1", 1);
    }

    private static void oneOrNothing() {
        due.says("| & ! give 1 or 0");
        String[] texts = {"5|0", "0|5", "5|7", "0|0", "-5|0", "0|-5", "5&7", "5&0", "0&7", "-5&-7", "0&0", "!0", "!1", "!5",
            "!-5", "!!5", "!!0", "2&4", "4|2", "(5|0)+(7&7)"};
        int[] want = {1, 1, 1, 0, 1, 1, 1, 0, 0, 1, 0, 1, 0, 0, 0, 1, 0, 1, 1, 2};
        for (int k = 0; k < texts.length; k++) {
            value(texts[k], want[k]);
        }
    }

    private static void everySign() {
        due.says("a SIGN: w, e, s, d of the LETTER, p, x, c, a of its NAME, t, o of its HOUSE; n, k, m; r");
        int[][] letters = {{0, 0, 0, 0, 0, 0, 0, 0, 0, 0}, {99, 9, 3, 399, 1, 1, 9, 100, 3, 3},
            {98, 8, 2, 398, 1, 0, 8, 99, 2, 1}, {1, 1, 1, 1, 0, 1, 1, 1, 1, 2}};
        for (int[] a : letters) {
            NamesOnLetters x = new NamesOnLetters();
            x.name(a[4], a[5], 101 * a[6] + a[7]);
            x.house(a[8], a[9], 0);
            x.letter(0, 0, a[0], 4 * a[1] + a[2], a[3]);
            for (int k = 0; k < 10; k++) {
                String sign = "wesdpxcato".substring(k, k + 1);
                due.is("law " + sign, Due.law(x, 0, sign), 0);
                due.call(x, a[k], "value", 0, 0);
            }
            for (String sign : new String[] {"n", "k", "m"}) {
                due.is("law " + sign, Due.law(x, 0, sign), 0);
                due.call(x, 0, "value", 0, 0);
            }
            x.ring(0, true);
            for (int k = 0; k < 10; k++) {
                String sign = "wesdpxcato".substring(k, k + 1);
                due.is("filter " + sign, Due.filter(x, 0, sign + "=" + a[k]), 0);
                due.call(x, 1, "share", 0);
            }
        }
    }

    private static void toldAnew() {
        due.says("9, 10: THE TEXT is a LAW: one told before under its number is gone");
        NamesOnLetters x = States.unwritten();
        x.end(0);
        x.letter(0, 0, 7, 0, 0);
        String[] texts = {"1+2+3", "9", "w*w*w", "!w", "5"};
        int[] want = {6, 9, 343, 0, 5};
        for (int k = 0; k < texts.length; k++) {
            due.is("law " + texts[k], Due.law(x, 3, texts[k]), 0);
            due.call(x, want[k], "value", 3, 0);
            // a wrong one leaves it
            due.is("law +", Due.law(x, 3, "1+2+"), -5);
            due.call(x, want[k], "value", 3, 0);
            due.call(x, 9, "count", 5);
        }
        // as long as can be, and again
        for (int k = 1; k <= 9; k++) {
            due.is("law of 40 signs", Due.law(x, 3, times("!", 38) + "1" + k), 0);
            due.call(x, 1, "value", 3, 0);
            due.is("law of 39 signs", Due.law(x, 3, times("1+", 19) + k), 0);
            due.call(x, 19 + k, "value", 3, 0);
        }
        x.ring(0, true);
        due.is("filter w", Due.filter(x, 3, "w"), 0);
        due.call(x, 1, "share", 3);
        due.is("filter !w", Due.filter(x, 3, "!w"), 0);
        due.call(x, 0, "share", 3);
        due.is("filter +", Due.filter(x, 3, "w+"), -3);
        due.call(x, 0, "share", 3);
    }

    /** Two houses, four letters to the first, one to the other. */
    private static NamesOnLetters house(String law) {
        NamesOnLetters x = new NamesOnLetters();
        Due.names(x, "01");
        x.house(0, 0, 0);
        x.house(0, 0, 0);
        int[] worths = {0, 70, 99, 40};
        for (int i = 0; i < 4; i++) {
            x.letter(0, i % 2, worths[i], 0, 0);
        }
        x.letter(1, 0, 5, 0, 0);
        Due.law(x, 0, law);
        return x;
    }

    private static void toldNow() {
        due.says("n how many LETTERS its HOUSE has RUNG till now, k how many it has READ, m the greatest WORTH (0 without)");
        int[] order = {3, 0, 1, 2};
        int[][] rungReadWorth = {{0, 0, 0}, {1, 1, 40}, {1, 2, 40}, {2, 3, 70}, {2, 4, 99}};
        String[] laws = {"n", "k", "m"};
        for (int what = 0; what < 3; what++) {
            NamesOnLetters x = house(laws[what]);
            for (int step = 0; step < 5; step++) {
                for (int i = 0; i < 4; i++) {
                    due.call(x, rungReadWorth[step][what], "value", 0, i);
                }
                due.call(x, 0, "value", 0, 4);
                if (step < 4) {
                    x.ring(order[step], step % 2 == 0);
                }
            }
            x.ring(4, true);
            due.call(x, what == 2 ? 5 : 1, "value", 0, 4);
        }
        due.says("m 0 without, and of WORTH 0");
        NamesOnLetters x = house("m+1");
        due.call(x, 1, "value", 0, 0);
        x.ring(0, true);
        due.call(x, 1, "value", 0, 0);
    }

    private static void valueArguments() {
        due.says("11: NoSuchElementException: no such LETTER, a LAW that was not told");
        Supplier<NamesOnLetters> rich = States::rich;
        due.range(rich, 0, 8, "value", 1, 0, 0);
        due.range(rich, 0, 8, "value", 1, 2, 0);
        for (int law : new int[] {-1, 1, 3, 4, 5, 6, Integer.MIN_VALUE, Integer.MAX_VALUE}) {
            due.nothing(rich, Model.THROWS, "value", law, 0);
            due.nothing(rich, Model.THROWS, "value", law, 9);
            due.nothing(rich, Model.THROWS, "value", law, -1);
        }
        // 20 + 2 READ by 10 - 1 RUNG; a FILTER told under the number is no LAW
        due.call(States.rich(), 39, "value", 0, 0);
        due.call(States.rich(), 50, "value", 2, 0);
    }
}
