/** The edges of promises 21 to 25: names, drawn, goes, says, child. */
public final class NamesEdgesTest {
    private static final Due due = new Due("edges of names");

    public static void main(String[] args) {
        namesArguments();
        namesWithoutAny();
        drawnOfNone();
        drawnNoMoreThan();
        drawnInAnyOrder();
        drawnEachOnce();
        goesArguments();
        goesWithoutPairs();
        goesOneWay();
        saysOfEqualOnes();
        saysTheMostInSize();
        childArguments();
        childApart();
        childOfOnePeopleAndSex();
        due.end();
    }

    /**
     * Names by people, sex, class, taken, rung, letters; the letters of each name go to the next houses.
     */
    private static NamesOnLetters named(int[]... names) {
        NamesOnLetters x = new NamesOnLetters();
        for (int h = 0; h < 24; h++) {
            x.house(0, 0, 0);
        }
        int told = 0;
        for (int n = 0; n < names.length; n++) {
            int[] a = names[n];
            x.name(a[0], a[1], 101 * a[2] + a[3]);
            for (int k = 0; k < a[5]; k++) {
                Due.read(x, told / 4, n, k < a[4]);
                told++;
            }
        }
        return x;
    }

    private static void namesArguments() {
        due.says("21: NONE: none such");
        due.range(States::rich, 0, 4, "names", 0, 0);
        due.nothing(States::rich, -1, "names", 5);
        due.nothing(States::rich, -1, "names", 11);
        due.nothing(States::rich, -1, "names", 12);
        due.nothing(NamesOnLetters::new, -1, "names", 0);
        NamesOnLetters x = named(new int[12][6]);
        x.pairs();
        due.call(x, 0, "names", 11);
        due.row(x);
        due.refused(x, "names", 12);
    }

    private static void namesWithoutAny() {
        due.says("21: SHARE of LETTERS of a NAME: how many; the ROW: it as a fraction (none without any)");
        NamesOnLetters x = named(new int[][] {{0, 0, 0, 0, 0, 0}, {0, 0, 0, 0, 0, 1}, {0, 0, 0, 0, 1, 1},
            {0, 0, 0, 0, 2, 6}, {1, 0, 0, 0, 3, 4}});
        x.letter(23, 0, 0, 0, 0);
        due.call(x, 0, "names", 0);
        long[][] rows = {{}, {0, 1}, {1, 1}, {1, 3}, {3, 4}};
        int[] letters = {0, 1, 1, 6, 4};
        for (int n = 4; n >= 0; n--) {
            due.call(x, letters[n], "names", n);
            due.row(x, rows[n]);
        }
        x.ring(12, true);
        for (int again = 0; again < 3; again++) {
            due.call(x, 1, "names", 0);
            due.row(x, 1, 1);
        }
    }

    private static void drawnOfNone() {
        due.says("22: -2: no NAME has any; NONE never");
        due.nothing(NamesOnLetters::new, -2, "drawn");
        due.nothing(() -> {
            NamesOnLetters x = named(new int[4][6]);
            x.letter(0, 0, 0, 0, 0);
            x.pairs();
            return x;
        }, -2, "drawn");
        NamesOnLetters x = named(new int[] {0, 0, 0, 0, 0, 1});
        due.call(x, 0, "drawn");
        due.row(x, 1, 1);
        // those of PEOPLE 1 have no READ LETTERS, or all have that have some
        NamesOnLetters y = named(new int[][] {{0, 0, 0, 0, 1, 2}, {0, 0, 0, 0, 1, 1}, {1, 0, 0, 0, 0, 0}});
        y.pairs();
        due.call(y, 0, "drawn");
        due.row(y, 1, 1);
        NamesOnLetters z = named(new int[][] {{1, 0, 0, 0, 1, 2}, {1, 0, 0, 0, 1, 1}, {0, 0, 0, 0, 0, 0}});
        due.call(z, 0, "drawn");
        due.row(z, 1, 1);
    }

    private static void drawnNoMoreThan() {
        due.says("22: the share in which the sum of RUNG by LETTERS over these is no more than it is");
        // one of PEOPLE 1 by 1/2 beside 0, 1/2 and 1: three of four are no more
        int[][] names = {{0, 0, 0, 0, 0, 1}, {0, 0, 0, 0, 1, 2}, {0, 0, 0, 0, 1, 1}, {1, 0, 0, 0, 2, 4}};
        due.call(named(names), 0, "drawn");
        NamesOnLetters x = named(names);
        x.drawn();
        due.row(x, 3, 4);
        // just above and just below: 3/7 and 4/7
        names[3] = new int[] {1, 0, 0, 0, 3, 7};
        NamesOnLetters y = named(names);
        y.drawn();
        due.row(y, 1, 2);
        names[3] = new int[] {1, 0, 0, 0, 4, 7};
        NamesOnLetters z = named(names);
        z.drawn();
        due.row(z, 3, 4);
        // sums that are equal by other parts: 1/2 + 1/3 and 5/6 + 0, of six pairs 1/3 + 0 and 1/2 + 0 are less
        NamesOnLetters w = named(new int[][] {{1, 0, 0, 0, 1, 2}, {1, 0, 0, 0, 1, 3}, {0, 0, 0, 0, 5, 6}, {0, 0, 0, 0, 0, 1}});
        w.drawn();
        due.row(w, 2, 3);
    }

    /** The same names told in another order are drawn alike: each of their counts of letters stands first once. */
    private static void drawnInAnyOrder() {
        int[][][] sets = {{{1, 0, 0, 0, 2, 3}, {0, 0, 0, 0, 0, 1}, {0, 0, 0, 0, 1, 2}, {0, 0, 0, 0, 5, 7}},
            {{1, 0, 0, 0, 3, 5}, {1, 0, 0, 0, 3, 7}, {0, 0, 0, 0, 4, 7}, {0, 0, 0, 0, 1, 2}, {0, 0, 0, 0, 2, 3}}};
        // 0, 1/2 and 2/3 of four; of ten pairs 3/5 + 3/7 is more than 3/7 + 4/7, 3/7 + 1/2
        long[][] rows = {{3, 4}, {3, 10}};
        for (int s = 0; s < 2; s++) {
            int n = sets[s].length;
            for (int turn = 0; turn < n; turn++) {
                int[][] names = new int[n][];
                for (int k = 0; k < n; k++) {
                    names[k] = sets[s][(k + turn) % n];
                }
                NamesOnLetters x = named(names);
                for (int again = 0; again < 2; again++) {
                    due.call(x, 0, "drawn");
                    due.row(x, rows[s]);
                }
            }
        }
    }

    private static void drawnEachOnce() {
        due.says("22: (each NAME's SHARE counted once), as many of the NAMES");
        // of PEOPLE 1 name 0 rings once of eight: 1/8; the others 0, 1, 1
        NamesOnLetters x = named(new int[][] {{1, 0, 0, 0, 1, 8}, {0, 0, 0, 0, 0, 1}, {0, 0, 0, 0, 1, 1}, {0, 0, 0, 0, 1, 1}});
        x.drawn();
        due.row(x, 1, 2);
        // twelve, and as many as they are
        for (int ones = 0; ones <= 12; ones++) {
            int[][] names = new int[12][];
            long ways = 1;
            for (int n = 0; n < 12; n++) {
                names[n] = new int[] {n < ones ? 1 : 0, 0, 0, 0, n < ones ? 0 : 1, 1};
                ways = n < ones ? ways * (12 - n) / (n + 1) : ways;
            }
            NamesOnLetters y = named(names);
            due.call(y, 0, "drawn");
            due.row(y, 1, ways);
        }
    }

    private static void goesArguments() {
        due.says("23: NONE: another what");
        due.range(States::rich, 0, 3, "goes", 0, 0);
    }

    private static void goes(NamesOnLetters x, int what, int one, int other, int alike) {
        due.call(x, one, "goes", what);
        due.row(x, other, alike);
    }

    private static void goesWithoutPairs() {
        due.says("23: by NAMES with READ LETTERS, in pairs");
        NamesOnLetters none = new NamesOnLetters();
        NamesOnLetters one = named(new int[] {1, 1, 9, 100, 1, 1});
        NamesOnLetters unread = named(new int[][] {{1, 1, 9, 100, 1, 1}, {0, 0, 0, 0, 0, 0}});
        unread.letter(23, 1, 0, 0, 0);
        for (int what = 0; what < 4; what++) {
            goes(none, what, 0, 0, 0);
            goes(one, what, 0, 0, 0);
            goes(unread, what, 0, 0, 0);
        }
        unread.ring(1, false);
        for (int what = 0; what < 4; what++) {
            goes(unread, what, 1, 0, 0);
        }
    }

    private static void goesOneWay() {
        due.says("23: how many the other way, in how many it is alike, or the SHARES are");
        for (int what = 0; what < 4; what++) {
            int[] low = new int[6];
            low[5] = 2;
            int[] high = new int[6];
            high[what] = 1;
            high[5] = 3;
            // shares 0/2 and 0/3 are alike, then 1/2 and 1/3, 1/2 and 2/3
            goes(named(low, high), what, 0, 0, 1);
            low[4] = 1;
            high[4] = 1;
            goes(named(low, high), what, 0, 1, 0);
            goes(named(high, low), what, 0, 1, 0);
            high[4] = 2;
            goes(named(low, high), what, 1, 0, 0);
            goes(named(high, low), what, 1, 0, 0);
            low[what] = 1;
            goes(named(low, high), what, 0, 0, 1);
            high[5] = 4;
            low[what] = 0;
            goes(named(low, high), what, 0, 0, 1);
            low[4] = 0;
            goes(named(low, high, high, low), what, 4, 0, 2);
        }
        // the greatest of each by one
        goes(named(new int[][] {{0, 0, 8, 99, 0, 1}, {0, 0, 9, 100, 1, 1}}), 2, 1, 0, 0);
        goes(named(new int[][] {{0, 0, 8, 99, 0, 1}, {0, 0, 9, 100, 1, 1}}), 3, 1, 0, 0);
    }

    private static void saysOfEqualOnes() {
        due.says("24: of equal ones the first: it; the ROW: by how many");
        NamesOnLetters none = new NamesOnLetters();
        none.pairs();
        due.call(none, 0, "says");
        due.row(none, 0);
        // one pair that goes with those told
        int[][] together = {{1, 1, 1, 1}, {0, 1, 1, 1}, {0, 0, 1, 1}, {0, 0, 0, 1}, {0, 1, 0, 1}, {1, 0, 0, 1}, {0, 0, 0, 0}};
        int[] first = {0, 1, 2, 3, 1, 0, 0};
        for (int k = 0; k < together.length; k++) {
            int[] t = together[k];
            for (int up = 0; up < 2; up++) {
                NamesOnLetters x = named(new int[][] {{0, 0, 0, 0, 1 - up, 1}, {t[0], t[1], t[2], t[3], up, 1}});
                x.pairs();
                due.call(x, first[k], "says");
                due.row(x, k == 6 ? 0 : up == 1 ? 1 : -1);
            }
        }
    }

    private static void saysTheMostInSize() {
        due.says("24: pairs one way less pairs the other way are the most, in size (below 0: the other way are more)");
        // shares 0, 1/2, 1; people 0 0 1: 2; sex 0 1 0: 0; class 2 1 0: -3; taken 0 1 1: 2
        NamesOnLetters x = named(new int[][] {{0, 0, 2, 0, 0, 1}, {0, 1, 1, 1, 1, 2}, {1, 0, 0, 1, 1, 1}});
        due.call(x, 2, "says");
        due.row(x, -3);
        // taken goes all the way, the others do less
        NamesOnLetters y = named(new int[][] {{0, 1, 0, 0, 0, 1}, {0, 0, 0, 50, 1, 2}, {1, 0, 0, 100, 1, 1}});
        due.call(y, 3, "says");
        due.row(y, 3);
        // as much one way as the other way: sex by -2, class by 2
        NamesOnLetters z = named(new int[][] {{0, 1, 0, 0, 0, 1}, {0, 0, 0, 0, 1, 2}, {0, 0, 1, 0, 1, 1}});
        due.call(z, 1, "says");
        due.row(z, -2);
        NamesOnLetters w = named(new int[][] {{0, 0, 1, 0, 0, 1}, {0, 0, 0, 0, 1, 2}, {0, 1, 0, 0, 1, 1}});
        due.call(w, 1, "says");
        due.row(w, 2);
    }

    private static void childArguments() {
        due.says("25: off (1 .. 9). NONE: another off");
        due.range(States::rich, 1, 9, "child", 0, 1);
    }

    private static void childApart() {
        due.says("25: whose CLASS is apart by off (1 .. 9) at least");
        for (int apart = 0; apart <= 9; apart++) {
            for (int off = 1; off <= 9; off++) {
                int pairs = apart >= off ? 1 : 0;
                int[][] names = {{1, 0, 0, 0, 1, 2}, {1, 0, apart, 7, 2, 3}};
                NamesOnLetters x = named(names);
                due.call(x, pairs, "child", off);
                due.row(x, pairs, 0);
                NamesOnLetters y = named(new int[][] {{0, 1, 9, 0, 1, 3}, {0, 1, 9 - apart, 0, 1, 2}});
                due.call(y, 0, "child", off);
                due.row(y, pairs, pairs);
                // the shares are alike
                NamesOnLetters z = named(new int[][] {{0, 1, 9, 0, 1, 2}, {0, 1, 9 - apart, 0, 2, 4}});
                due.call(z, 0, "child", off);
                due.row(z, pairs, 0);
            }
        }
    }

    private static void childOfOnePeopleAndSex() {
        due.says("25: Pairs of NAMES of one PEOPLE and one SEX, both with READ LETTERS");
        for (int people = 0; people < 2; people++) {
            for (int sex = 0; sex < 2; sex++) {
                NamesOnLetters x = named(new int[][] {{0, 0, 0, 0, 0, 1}, {people, sex, 9, 0, 1, 1}});
                int pairs = people + sex == 0 ? 1 : 0;
                due.call(x, pairs, "child", 9);
                due.row(x, pairs, 0);
            }
        }
        NamesOnLetters x = named(new int[][] {{0, 0, 0, 0, 0, 1}, {0, 0, 9, 0, 0, 0}});
        x.letter(23, 1, 0, 0, 0);
        x.says();
        due.call(x, 0, "child", 1);
        due.row(x, 0, 0);
        x.ring(1, true);
        due.call(x, 1, "child", 1);
        due.row(x, 1, 0);
        NamesOnLetters none = new NamesOnLetters();
        due.call(none, 0, "child", 9);
        due.row(none, 0, 0);
    }
}
