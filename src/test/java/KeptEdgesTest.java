/** The edges of promises 46 to 49: keep, again, count, row. */
public final class KeptEdgesTest {
    private static final Due due = new Due("edges of what is kept");

    public static void main(String[] args) {
        keepArguments();
        keepEachNumber();
        againArguments();
        againNothingKept();
        againFewerLetters();
        againOfNone();
        lettersSinceAreGone();
        whatIsGoneIsNotAsked();
        toldLastUnderTheirNumbers();
        askingsAreGone();
        othersStay();
        keptAnew();
        countArguments();
        countsAtTheEnds();
        rowArguments();
        due.end();
    }

    private static void keepArguments() {
        due.says("46: under a number 0 .. 2: true. Refused: others");
        due.range(States::rich, 0, 2, "keep", 0, 0);
        due.range(NamesOnLetters::new, 0, 2, "keep", 0, 0);
    }

    private static NamesOnLetters dealt(int letters) {
        NamesOnLetters x = new NamesOnLetters();
        Due.names(x, "0011");
        for (int h = 0; h < 24; h++) {
            x.house(0, 0, 0);
        }
        for (int i = 0; i < letters; i++) {
            x.letter(i / 4, i % 4, i, 0, i);
        }
        return x;
    }

    private static void keepEachNumber() {
        due.says("46: Which LETTERS there are, what is READ, RUNG, AFTER, and R are kept under a number");
        NamesOnLetters x = dealt(3);
        for (int i = 0; i < 3; i++) {
            x.ring(i, i % 2 == 0);
            x.seed(100 + i);
            if (i == 2) {
                x.after(2, 2);
            }
            due.call(x, 1, "keep", i);
        }
        x.letter(3, 0, 0, 0, 0);
        x.seed(7);
        int[] order = {0, 2, 1, 2, 0};
        for (int i : order) {
            due.call(x, 1, "again", i);
            due.call(x, 3, "count", 2);
            due.call(x, i + 1, "count", 3);
            due.call(x, i / 2 + 1, "count", 4);
            for (int k = 0; k < 3; k++) {
                due.call(x, k <= i ? 1 : 0, "of", k, 6);
                due.call(x, k <= i && k % 2 == 0 ? 1 : 0, "of", k, 7);
                due.call(x, k == 2 && i == 2 ? 2 : 0, "of", k, 8);
            }
            due.call(x, 100 + i, "seed", 5);
        }
    }

    private static void againArguments() {
        due.says("47: kept under a number");
        due.range(States::rich, 0, 2, "again", 0, 0);
        // 6 letters were kept at 0, 8 there, 9 at 2
        due.call(States.rich(), 1, "again", 0);
        NamesOnLetters x = States.rich();
        x.again(1);
        due.call(x, 8, "count", 2);
        due.call(x, 0, "again", 2);
        due.call(x, 1, "again", 0);
        due.call(x, 8, "count", 2);
    }

    private static void againNothingKept() {
        due.says("47: Refused: nothing kept");
        for (int i = 0; i < 3; i++) {
            int one = i;
            due.nothing(NamesOnLetters::new, 0, "again", i);
            due.nothing(States::unwritten, 0, "again", i);
            for (int other = 0; other < 3; other++) {
                if (other != i) {
                    due.nothing(() -> {
                        NamesOnLetters x = dealt(5);
                        x.asked(0, 1, 1);
                        x.keep(one);
                        return x;
                    }, 0, "again", other);
                }
            }
        }
    }

    /** Kept with so many letters under 1, and then with so many left. */
    private static NamesOnLetters left(int kept, int now) {
        NamesOnLetters x = dealt(Math.min(kept, now));
        x.keep(0);
        for (int i = x.count(2); i < kept; i++) {
            x.letter(i / 4, 0, 50, 0, 0);
        }
        x.box(3, 0, 0, 0);
        x.seed(99);
        x.keep(1);
        x.again(0);
        for (int i = x.count(2); i < now; i++) {
            x.letter(i / 4, 1, 60, 0, 0);
        }
        x.asked(0, 1, 1);
        return x;
    }

    private static void againFewerLetters() {
        due.says("47: Refused: there are fewer LETTERS now");
        int[][] cases = {{5, 4}, {5, 0}, {1, 0}, {96, 95}, {96, 0}, {8, 7}};
        for (int[] c : cases) {
            due.nothing(() -> left(c[0], c[1]), 0, "again", 1);
            due.call(left(c[0], c[1]), c[1] > 1 ? 1 : 0, "count", 7);
        }
        int[][] fit = {{5, 5}, {5, 6}, {4, 5}, {0, 1}, {0, 0}, {96, 96}, {95, 96}, {1, 96}};
        for (int[] c : fit) {
            NamesOnLetters x = left(c[0], c[1]);
            due.call(x, 1, "again", 1);
            due.call(x, c[0], "count", 2);
            due.call(x, c[0], "count", 3);
            due.call(x, 99, "seed", 1);
        }
    }

    private static void againOfNone() {
        due.says("47: They are as they were kept: without LETTERS, too");
        NamesOnLetters x = new NamesOnLetters();
        due.call(x, 1, "keep", 2);
        Due.names(x, "0");
        x.house(0, 0, 0);
        for (int i = 0; i < 4; i++) {
            x.letter(0, 0, 0, 0, 0);
        }
        x.seed(4);
        due.call(x, 1, "again", 2);
        due.call(x, 0, "count", 2);
        due.thrown(x, "of", 0, 0);
        due.call(x, 1, "seed", 1);
        due.call(x, 1, "count", 0);
        due.call(x, 1, "count", 1);
        for (int i = 0; i < 4; i++) {
            due.call(x, i, "letter", 0, 0, 0, 0, 0);
        }
        due.call(x, -1, "letter", 0, 0, 0, 0, 0);
    }

    private static void lettersSinceAreGone() {
        due.says("47: LETTERS since are gone");
        NamesOnLetters x = dealt(6);
        x.keep(0);
        x.deal(2, 1, 2);
        x.letter(1, 0, 0, 0, 0);
        x.letter(1, 0, 0, 0, 0);
        x.box(2, 96, 1, 0);
        due.call(x, -1, "letter", 1, 0, 0, 0, 0);
        due.call(x, -1, "deal", 2, 1, 2);
        due.call(x, 12, "count", 4);
        due.call(x, 1, "again", 0);
        due.call(x, 6, "count", 2);
        due.call(x, 0, "count", 3);
        due.call(x, 0, "count", 4);
        due.thrown(x, "of", 6, 0);
        due.call(x, 0, "ring", 6, 1);
        due.call(x, -1, "asked", 5, 6, 1);
        // there is room to their houses again, and what is told anew is not read
        due.call(x, 6, "letter", 1, 0, 0, 0, 0);
        for (int what = 6; what < 9; what++) {
            due.call(x, 0, "of", 6, what);
        }
        due.call(x, 7, "letter", 1, 0, 0, 0, 0);
        due.call(x, -1, "letter", 1, 0, 0, 0, 0);
        due.call(x, 12, "deal", 2, 1, 2);
        // from 96 back to 92, and up to 96 again
        NamesOnLetters full = dealt(92);
        full.keep(0);
        full.deal(23, 1, 2);
        full.again(0);
        due.call(full, 96, "deal", 23, 1, 2);
    }

    private static NamesOnLetters goneOrNever(boolean gone) {
        NamesOnLetters x = dealt(7);
        for (int i = 0; i < 6; i++) {
            x.ring(i, i % 3 == 0);
        }
        Due.law(x, 0, "w+n+k+m");
        Due.law(x, 1, "d");
        Due.filter(x, 0, "w>2");
        if (gone) {
            x.keep(2);
            x.letter(1, 3, 99, 39, 0);
            x.deal(2, 80, 90);
            x.deal(3, 80, 90);
            x.box(2, 96, 1, 0);
            for (int i = 7; i < 16; i++) {
                x.after(i, 2);
            }
            x.asked(0, 15, 1);
            x.again(2);
        }
        return x;
    }

    private static void whatIsGoneIsNotAsked() {
        due.says("47: LETTERS since are gone");
        NamesOnLetters x = goneOrNever(true);
        NamesOnLetters y = goneOrNever(false);
        for (String call : Shown.ASKINGS) {
            due.is(call, Shown.asked(x, call).equals(Shown.asked(y, call)), true);
        }
        for (String call : new String[] {"pairs", "ask", "nearly 0", "value 0 6", "value 0 0", "count 2", "read 96"}) {
            due.is(call, Shown.asked(x, call).equals(Shown.asked(y, call)), true);
        }
        due.nothing(() -> {
            NamesOnLetters z = goneOrNever(true);
            z.ring(6, true);
            return z;
        }, 0, "read", 96);
    }

    private static void toldLastUnderTheirNumbers() {
        due.says("47: the others are those told last under their numbers");
        NamesOnLetters x = dealt(2);
        x.keep(0);
        x.letter(5, 0, 11, 4, 1);
        x.letter(5, 1, 12, 5, 2);
        x.ring(2, true);
        x.after(2, 1);
        x.ring(3, false);
        x.keep(1);
        x.again(0);
        x.letter(6, 2, 21, 8, 3);
        x.letter(6, 3, 22, 9, 4);
        x.letter(6, 3, 23, 9, 5);
        due.call(x, 1, "again", 1);
        due.call(x, 4, "count", 2);
        long[][] told = {{6, 2, 21, 2, 0, 3, 1, 1, 1}, {6, 3, 22, 2, 1, 4, 1, 0, 0}};
        for (int i = 0; i < 2; i++) {
            for (int what = 0; what < 9; what++) {
                due.call(x, told[i][what], "of", 2 + i, what);
            }
        }
        // house 5 has none now
        due.call(x, 8, "deal", 5, 1, 2);
        due.call(x, -1, "deal", 6, 1, 2);
    }

    private static void askingsAreGone() {
        due.says("47: all askings are gone, too");
        for (int i = 0; i < 3; i++) {
            NamesOnLetters x = States.rich();
            due.call(x, 3, "count", 7);
            due.call(x, 0, "again", 3);
            due.call(x, 3, "count", 7);
            due.call(x, 1, "again", i);
            due.call(x, 0, "count", 7);
            due.call(x, 5, "pairs");
            due.row(x, 0, -1, 0, -1, -1, -1);
        }
    }

    private static void othersStay() {
        due.says("47: NAMES, HOUSES, LAWS, FILTERS, KINDS, PARTS, the ROW and THE TEXT are not kept, and stay");
        NamesOnLetters x = new NamesOnLetters();
        x.keep(0);
        Due.names(x, "01");
        x.house(0, 0, 0);
        Due.law(x, 4, "1");
        Due.filter(x, 5, "1");
        x.parts(0, 99);
        x.pairs();
        x.sign(0);
        due.call(x, 1, "again", 0);
        long[] want = {2, 1, 0, 0, 0, 16, 32, 0, 6, 4};
        for (int what = 0; what < 10; what++) {
            due.call(x, want[what], "count", what);
        }
        due.row(x, -1, -1, -1, -1, 0, -1);
        due.call(x, 970588, "likely", 0, 0);
    }

    private static void keptAnew() {
        due.says("46: kept under a number, the last time");
        NamesOnLetters x = dealt(3);
        x.keep(0);
        x.ring(0, true);
        x.letter(3, 0, 0, 0, 0);
        due.call(x, 1, "keep", 0);
        x.letter(3, 0, 0, 0, 0);
        due.call(x, 1, "again", 0);
        due.call(x, 4, "count", 2);
        due.call(x, 1, "of", 0, 7);
        // what comes after it is no part of what is kept
        x.after(0, 2);
        x.ring(1, true);
        due.call(x, 1, "again", 0);
        due.call(x, 0, "of", 0, 8);
        due.call(x, 0, "of", 1, 6);
    }

    private static void countArguments() {
        due.says("48: What 0 .. 9. NONE for another what");
        due.range(States::rich, 0, 9, "count", 0, 0);
        long[] want = {5, 4, 9, 5, 3, 5, 6, 3, 6, 5};
        for (int what = 0; what < 10; what++) {
            due.nothing(States::rich, want[what], "count", what);
        }
    }

    private static void countsAtTheEnds() {
        due.says("48: NAMES, HOUSES, LETTERS, READ, RUNG, LAWS and FILTERS told (bits), askings, the ROW, THE TEXT: all full");
        NamesOnLetters x = States.dealt(24);
        Due.names(x, "01010101");
        for (int i = 0; i < 6; i++) {
            Due.law(x, i, "w");
            Due.filter(x, i, "w");
        }
        x.box(2, 96, 1, 0);
        for (int k = 0; k < 40; k++) {
            x.asked(0, 1, 0);
        }
        for (int k = 0; k < 15; k++) {
            x.sign(0);
        }
        x.both(50);
        long[] want = {12, 24, 96, 96, 96, 63, 63, 40, 10, 60};
        for (int what = 0; what < 10; what++) {
            due.call(x, want[what], "count", what);
        }
    }

    private static void rowArguments() {
        due.says("49: Number i of the ROW. NoSuchElementException: none such");
        due.range(States::rich, 0, 5, "row", 0, 0);
        due.nothing(NamesOnLetters::new, Model.THROWS, "row", 0);
        due.nothing(NamesOnLetters::new, Model.THROWS, "row", -1);
        // ten numbers are the most, then none again
        NamesOnLetters x = States.dealt(24);
        x.box(2, 96, 1, 0);
        due.call(x, 0, "both", 50);
        due.call(x, 10, "count", 8);
        due.call(x, 1, "row", 9);
        due.thrown(x, "row", 10);
        Due.filter(x, 0, "0");
        due.call(x, 0, "share", 0);
        due.row(x);
    }
}
