import java.math.BigInteger;

/** The edges that the document's Terms name: draws, texts, expressions, reading, fractions, the ROW. */
public final class TermsEdgesTest {
    private static final Due due = new Due("edges of the terms");

    public static void main(String[] args) {
        draws();
        drawsOfLetters();
        readsBelow();
        readsWithoutLaw();
        passes();
        readAlone();
        fractions();
        kindsAtFirst();
        rowStays();
        askingsLeaveAll();
        askingsOfAFullOne();
        due.end();
    }

    /** The R from which a draw makes this next one. */
    static int before(int next) {
        BigInteger all = BigInteger.ONE.shiftLeft(32);
        BigInteger back = BigInteger.valueOf(1103515245).modInverse(all);
        return BigInteger.valueOf(next).subtract(BigInteger.valueOf(12345)).multiply(back).intValue();
    }

    private static NamesOnLetters one(String law) {
        NamesOnLetters x = new NamesOnLetters();
        Due.names(x, "01");
        x.house(0, 0, 0);
        x.letter(0, 0, 50, 0, 0);
        if (!law.isEmpty()) {
            due.is("law " + law, Due.law(x, 0, law), 0);
        }
        return x;
    }

    private static void draws() {
        due.says("R = R times 1103515245 + 12345 (as ints; R at first 1), (R without sign, by 65536) % n");
        due.call(new NamesOnLetters(), 1, "seed", 0);
        // by ints: with and without a wrap-around, and with a sign after it
        int[][] steps = {{1, 1103527590}, {0, 12345}, {-1, -1103502900}, {2, -2087924461},
            {Integer.MAX_VALUE, 1043980748}, {Integer.MIN_VALUE, -2147471303}};
        for (int[] step : steps) {
            NamesOnLetters x = one("50");
            x.seed(step[0]);
            x.read(1);
            due.call(x, step[1], "seed", 0);
        }
        // the draw of 100: the sign is a bit like the others, and what is below 65536 is nothing
        int[][] drawn = {{0, 0}, {65535, 0}, {65536, 1}, {99 << 16, 99}, {100 << 16, 0}, {0x7fffffff, 67},
            {0x80000000, 68}, {-1, 35}, {-65536, 35}, {-65537, 34}};
        for (int[] d : drawn) {
            NamesOnLetters x = one("" + d[1]);
            x.seed(before(d[0]));
            due.call(x, 0, "read", 1);
            due.call(x, d[0], "seed", 0);
            NamesOnLetters y = one("" + (d[1] + 1));
            y.seed(before(d[0]));
            due.call(y, 1, "read", 1);
        }
    }

    private static void drawsOfLetters() {
        due.says("by DRAWS, R without sign");
        // the draw of six by its lowest, its highest and a negative R: 0, 5, 32768 % 6 = 2, 65535 % 6 = 3
        int[][] drawn = {{0, 0, 1}, {5 << 16, 2, 3}, {6 << 16, 0, 1}, {Integer.MIN_VALUE, 0, 3}, {-1, 1, 2}};
        for (int[] d : drawn) {
            NamesOnLetters x = new NamesOnLetters();
            Due.names(x, "0011");
            x.house(0, 0, 0);
            x.seed(before(d[0]));
            due.call(x, 4, "deal", 0, 1, 2);
            for (int i = 0; i < 4; i++) {
                due.is("letter " + i + " is of PEOPLE 1", x.of(i, 1) >= 2, i == d[1] || i == d[2]);
            }
        }
    }

    private static void readsBelow() {
        due.says("A DRAW of 100 (always one); it is RUNG, if that is below what its LAW is for it");
        // the law's value, the draw, rung or not
        int[][] cases = {{0, 0, 0}, {1, 0, 1}, {1, 1, 0}, {49, 49, 0}, {50, 49, 1}, {50, 50, 0}, {99, 99, 0},
            {100, 99, 1}, {101, 99, 1}, {999, 99, 1}};
        for (int[] c : cases) {
            NamesOnLetters x = one("" + c[0]);
            x.seed(before(c[1] << 16));
            due.call(x, c[2], "read", 1);
            due.call(x, c[2], "of", 0, 7);
            due.call(x, 1, "of", 0, 6);
            due.call(x, c[1] << 16, "seed", 0);
        }
        NamesOnLetters x = one("-1");
        x.seed(before(0));
        due.call(x, 0, "read", 1);
        due.call(x, 0, "seed", 0);
        // the law's value wraps to the least of ints, and to the greatest
        NamesOnLetters low = one("512*512*512*16");
        low.seed(before(0));
        due.call(low, 0, "read", 1);
        NamesOnLetters high = one("512*512*512*16-1");
        high.seed(before(99 << 16));
        due.call(high, 1, "read", 1);
    }

    private static void readsWithoutLaw() {
        due.says("without such a LAW it is not (always one DRAW)");
        for (int law = 0; law < 6; law++) {
            NamesOnLetters x = new NamesOnLetters();
            Due.names(x, "0");
            x.house(0, 0, law);
            x.letter(0, 0, 50, 0, 0);
            x.letter(0, 0, 50, 0, 1);
            for (int other = 0; other < 6; other++) {
                due.is("law " + other, Due.law(x, other, other == law ? "+" : "100"), other == law ? -1 : 0);
            }
            x.seed(before(0));
            due.call(x, 0, "read", 1);
            due.call(x, 0, "seed", before(99 << 16));
            due.is("its own law", Due.law(x, law, "100"), 0);
            due.call(x, 1, "read", 1);
            due.call(x, 99 << 16, "seed", 0);
        }
    }

    private static void passes() {
        due.says("A LETTER PASSES a FILTER, if that is not 0; all pass NONE");
        NamesOnLetters x = one("");
        x.ring(0, true);
        int[][] values = {{'0', 0}, {'1', 1}, {'2', 1}};
        for (int[] v : values) {
            due.is("filter", Due.filter(x, 0, "" + (char) v[0]), 0);
            due.call(x, v[1], "share", 0);
        }
        String[] texts = {"-1", "0-1", "1-1", "-0", "w-50", "w-49", "w-51", "512*512*512*16", "512*512*512*32", "!1", "!0"};
        int[] pass = {1, 1, 0, 0, 0, 1, 1, 1, 0, 0, 1};
        for (int k = 0; k < texts.length; k++) {
            due.is("filter " + texts[k], Due.filter(x, 5, texts[k]), 0);
            due.call(x, pass[k], "share", 5);
        }
        due.call(x, 1, "share", NamesOnLetters.NONE);
        due.says("r 1 if the LETTER is RUNG, else 0");
        x.letter(0, 1, 50, 0, 0);
        x.ring(1, false);
        Due.filter(x, 0, "r=1");
        Due.filter(x, 1, "r=0");
        due.call(x, 1, "share", 0);
        due.row(x, 1, 1);
        due.call(x, 1, "share", 1);
        due.row(x, 0, 1);
    }

    /** Three houses with read letters, and, if told so, unread ones beside and in houses of their own. */
    private static NamesOnLetters withUnread(boolean more) {
        NamesOnLetters x = new NamesOnLetters();
        for (int n = 0; n < 4; n++) {
            x.name(n % 2, n / 2, 101 * n + 30 * n);
        }
        for (int h = 0; h < 4; h++) {
            x.house(h, 3 - h, 0);
        }
        Due.filter(x, 0, "w>10");
        int[][] read = {{0, 0, 30, 1}, {0, 1, 60, 0}, {1, 0, 60, 0}, {1, 1, 30, 1}, {2, 2, 40, 1}, {2, 3, 50, 0}};
        for (int[] a : read) {
            Due.read(x, a[0], a[1], a[2], 4, a[3] == 1);
        }
        if (more) {
            x.letter(0, 0, 99, 8, 0);
            x.letter(1, 1, 0, 4, 0);
            x.letter(2, 2, 60, 5, 0);
            x.letter(3, 0, 60, 4, 0);
            x.letter(3, 1, 60, 4, 0);
        }
        return x;
    }

    private static void readAlone() {
        due.says("Asked are LETTERS that are READ alone, if nothing else is said");
        NamesOnLetters x = withUnread(true);
        NamesOnLetters y = withUnread(false);
        for (String call : Shown.ASKINGS) {
            due.is(call, Shown.asked(x, call).equals(Shown.asked(y, call)), true);
        }
    }

    private static void askingsLeaveAll() {
        due.says("numbers told last: a call that asks changes nothing but the ROW, and answers so again");
        for (String first : Shown.ASKINGS) {
            NamesOnLetters x = States.rich();
            String answer = Shown.asked(x, first);
            due.is(first + " again", Shown.asked(x, first).equals(answer), true);
            for (String then : Shown.ASKINGS) {
                NamesOnLetters y = States.rich();
                Shown.asked(y, first);
                x = States.rich();
                Shown.asked(x, "pairs");
                Shown.asked(y, "pairs");
                due.is(then + " after " + first, Shown.asked(y, then).equals(Shown.asked(x, then)), true);
            }
        }
    }

    /** All that is told is as much as can be: 12 names, 24 houses, 96 letters, all of them read. */
    private static void askingsOfAFullOne() {
        due.says("at most 12, at most 24, at most 96");
        for (int run = 0; run < 6; run++) {
            Model model = new Model();
            java.util.List<String> calls = new java.util.ArrayList<>();
            for (int n = 0; n < 12; n++) {
                calls.add("name " + (n + run) % 2 + " " + n / 2 % 2 + " " + 1009 * n / 11);
            }
            for (int h = 0; h < 24; h++) {
                calls.add("house " + h % 4 + " " + h / 6 + " 0");
            }
            for (int i = 0; i < 96; i++) {
                calls.add("letter " + i / 4 + " " + i * 7 % 12 + " " + i * 41 % 100 + " " + i * (run + 1) % 40 + " " + i);
                calls.add("ring " + i + " " + (i * i * (run + 3) / 7 % (2 + run / 2) == 0 ? 1 : 0));
                calls.add("after " + i + " " + i / 3 % 3);
            }
            for (String call : calls) {
                Shown.answer(model, call);
            }
            model.filters[0] = "w>40";
            for (String call : Shown.ASKINGS) {
                NamesOnLetters x = new NamesOnLetters();
                for (String told : calls) {
                    Shown.called(x, told);
                }
                due.is("filter", Due.filter(x, 0, "w>40"), 0);
                due.call(x, 96, "count", 3);
                model.row = new java.util.ArrayList<>();
                due.is(call, Shown.called(x, call), Shown.answer(model, call));
                long[] row = new long[model.row.size()];
                for (int i = 0; i < row.length; i++) {
                    row[i] = model.row.get(i);
                }
                due.row(x, row);
            }
        }
    }

    private static void fractions() {
        due.says("Fractions are told in lowest terms, upper and lower number (0 by 1); the upper one may be below 0");
        NamesOnLetters x = new NamesOnLetters();
        Due.names(x, "01");
        for (int h = 0; h < 4; h++) {
            x.house(0, 0, 0);
        }
        Due.read(x, 0, 0, false);
        x.share(-1);
        due.row(x, 0, 1);
        Due.read(x, 0, 0, false);
        Due.read(x, 0, 0, false);
        x.share(-1);
        due.row(x, 0, 1);
        Due.read(x, 0, 0, true);
        x.share(-1);
        due.row(x, 1, 4);
        Due.read(x, 1, 0, true);
        Due.read(x, 1, 0, true);
        x.share(-1);
        due.row(x, 1, 2);
        Due.read(x, 2, 1, true);
        Due.read(x, 2, 1, true);
        x.aside(-1);
        due.row(x, -1, 2, 6, 3, 2, 2);
        x.names(1);
        due.row(x, 1, 1);
        Due.read(x, 2, 1, false);
        Due.read(x, 2, 1, false);
        x.aside(-1);
        due.row(x, 0, 1, 6, 3, 4, 2);
        Due.read(x, 3, 1, false);
        x.aside(-1);
        due.row(x, 1, 10, 6, 3, 5, 2);
    }

    private static void kindsAtFirst() {
        due.says("at first 30, 30; 30, 15; 30, 0; 0, 0, and so many PARTS, at first 1 each");
        NamesOnLetters x = new NamesOnLetters();
        Due.names(x, "01");
        for (int h = 0; h < 4; h++) {
            x.house(0, 0, 0);
        }
        Due.read(x, 0, 0, true);
        Due.read(x, 1, 0, false);
        Due.read(x, 2, 1, true);
        Due.read(x, 3, 1, false);
        // 30 30 30 0; 70 70 70 100; 30 15 0 0; 70 85 100 100
        int[][] likely = {{333333, 333333, 333333, 0}, {225806, 225806, 225806, 322580}, {666666, 333333, 0, 0},
            {197183, 239436, 281690, 281690}};
        for (int h = 0; h < 4; h++) {
            for (int k = 0; k < 4; k++) {
                due.call(x, likely[h][k], "likely", h, k);
            }
        }
        for (int k = 0; k < 4; k++) {
            due.call(x, 1, "parts", k, 1);
        }
    }

    private static void rowStays() {
        due.says("The ROW stays with answers below 0");
        String[] none = {"aside -1", "weighs", "drawn", "both 50", "explains 0", "explains 1", "explains 2", "explains 3",
            "join 0", "join 1", "join 2", "bounds 0", "bounds 1", "years 50", "ask"};
        for (String call : none) {
            due.nothing(States::unwritten, -2, Shown.name(call), Shown.arguments(call));
        }
        due.nothing(States::unwritten, -2, "least", 0, 100, 1, 0);
        due.nothing(States::unwritten, -2, "box", 0, -1, 0, 0);
        due.says("numbers told last by a call that says so: the others leave the ROW");
        NamesOnLetters x = States.rich();
        due.row(x, 1, 6, 3, 2, 2, 1);
        String[] others = {"table 0 0", "likely 0 0", "sure 1 0", "nearly 1", "shows 1 50 50 1", "count 0", "of 0 0",
            "value 0 0", "ring 6 1", "after 6 1", "read 1", "box 3 0 0 0", "seed 1", "sign 0", "end 0", "law 0",
            "filter 0", "keep 0", "again 0", "asked 0 1 1", "kind 0 1 1", "parts 0 1", "name 0 0 0", "house 0 0 0",
            "letter 3 0 0 0 0", "deal 4 0 0", "row 0"};
        for (String call : others) {
            Shown.called(x, call);
            due.row(x, 1, 6, 3, 2, 2, 1);
        }
    }
}
