/** The edges of promises 34 to 39: both, explains, join, bounds, years, mornings. */
public final class ExplainedEdgesTest {
    private static final Due due = new Due("edges of what explains");

    public static void main(String[] args) {
        bothArguments();
        bothOrMoreAndBelow();
        bothOfFour();
        bothAboveAndBelow();
        explainsArguments();
        explainsWithoutBoth();
        explainsEveryValue();
        explainsByLetters();
        joinArguments();
        joinOfNothing();
        joinEveryValue();
        boundsArguments();
        boundsOfNone();
        boundsAtLeastAtMost();
        yearsArguments();
        yearsNoLess();
        yearsToTheEnd();
        yearsNone();
        morningsArguments();
        morningsMost();
        due.end();
    }

    /** Letters that are read, by house, people, worth, es, rung; of twelve houses, each with a trade and a town. */
    private static NamesOnLetters read(int[]... letters) {
        NamesOnLetters x = new NamesOnLetters();
        Due.names(x, "01");
        for (int h = 0; h < 24; h++) {
            x.house(h % 4, h / 4 % 4, 0);
        }
        for (int[] a : letters) {
            Due.read(x, a[0], a[1], a[2], a[3], a[4] == 1);
        }
        return x;
    }

    private static void bothArguments() {
        due.says("34: v (1 .. 99). NONE: another v");
        due.range(States::rich, 1, 99, "both", 0, 1);
    }

    private static void bothOrMoreAndBelow() {
        due.says("34: with WORTH v or more, those below");
        for (int v : new int[] {1, 2, 50, 98, 99}) {
            int[][] letters = {{0, 0, v, 0, 1}, {0, 0, v - 1, 0, 0}, {0, 1, v, 0, 1}, {0, 1, v - 1, 0, 0}};
            due.call(read(letters), 0, "both", v);
            NamesOnLetters x = read(letters);
            x.both(v);
            due.row(x, 1, 1, 0, 1, 1, 1, 0, 1, 0, 1);
            for (int other : new int[] {v - 1, v + 1}) {
                if (other >= 1 && other <= 99) {
                    due.nothing(() -> read(letters), -2, "both", other);
                }
            }
            for (int k = 0; k < 4; k++) {
                // each of the four alone on the other side
                int[][] moved = new int[4][];
                for (int i = 0; i < 4; i++) {
                    moved[i] = letters[i].clone();
                }
                moved[k][2] += k % 2 == 0 ? -1 : 1;
                due.nothing(() -> read(moved), -2, "both", v);
            }
        }
        int[][] ends = {{0, 0, 99, 0, 1}, {0, 0, 0, 0, 0}, {0, 1, 99, 0, 0}, {0, 1, 0, 0, 1}};
        for (int v : new int[] {1, 2, 50, 99}) {
            NamesOnLetters x = read(ends);
            due.call(x, 1, "both", v);
            due.row(x, 1, 1, 0, 1, 0, 1, 1, 1, 2, 1);
        }
    }

    private static void bothOfFour() {
        due.says("34: -2: one of the four has none");
        int[][] all = {{0, 0, 60, 0, 1}, {0, 0, 40, 0, 0}, {0, 1, 60, 0, 1}, {0, 1, 40, 0, 0}};
        for (int some = 0; some < 15; some++) {
            int[][] letters = new int[Integer.bitCount(some)][];
            int n = 0;
            for (int k = 0; k < 4; k++) {
                if ((some >> k & 1) == 1) {
                    letters[n++] = all[k];
                }
            }
            due.nothing(() -> read(letters), -2, "both", 50);
        }
        due.call(read(all), 0, "both", 50);
    }

    private static void bothAboveAndBelow() {
        due.says("34: 1 it is above 0, 2 below, 0 neither; the ROW: the four SHARES' parts, then the fraction");
        // high 1/2, low 1/3, then high 2/3, low 1/2: 1/6 less 1/6
        int[][] even = {{0, 0, 60, 0, 1}, {0, 0, 60, 0, 0}, {0, 0, 40, 0, 1}, {0, 0, 40, 0, 0}, {1, 0, 40, 0, 0},
            {1, 1, 60, 0, 1}, {1, 1, 60, 0, 1}, {1, 1, 60, 0, 0}, {2, 1, 40, 0, 1}, {2, 1, 40, 0, 0}};
        // 1/2 less 0 less (0 less 0), then 1/2 less 1
        NamesOnLetters up = read(new int[] {0, 0, 60, 0, 1}, new int[] {0, 0, 60, 0, 0}, new int[] {0, 0, 40, 0, 0},
                new int[] {1, 1, 60, 0, 0}, new int[] {1, 1, 40, 0, 0});
        due.call(up, 1, "both", 50);
        due.row(up, 1, 2, 0, 1, 0, 1, 0, 1, 1, 2);
        NamesOnLetters down = read(new int[] {0, 0, 60, 0, 1}, new int[] {0, 0, 60, 0, 0}, new int[] {0, 0, 40, 0, 0},
                new int[] {1, 1, 60, 0, 1}, new int[] {1, 1, 40, 0, 0});
        due.call(down, 2, "both", 50);
        due.row(down, 1, 2, 0, 1, 1, 1, 0, 1, -1, 2);
        NamesOnLetters x = read(even);
        due.call(x, 0, "both", 50);
        due.row(x, 1, 2, 1, 3, 2, 3, 1, 2, 0, 1);
        Due.read(x, 3, 0, 40, 0, false);
        due.call(x, 1, "both", 50);
        due.row(x, 1, 2, 1, 4, 2, 3, 1, 2, 1, 12);
        Due.read(x, 3, 1, 40, 0, false);
        due.call(x, 2, "both", 50);
        due.row(x, 1, 2, 1, 4, 2, 3, 1, 3, -1, 12);
    }

    private static void explainsArguments() {
        due.says("35: NONE: another what");
        due.range(States::rich, 0, 3, "explains", 0, 0);
    }

    private static void explainsWithoutBoth() {
        due.says("35: -2: no value has both");
        for (int what = 0; what < 4; what++) {
            due.nothing(NamesOnLetters::new, -2, "explains", what);
            due.nothing(() -> read(), -2, "explains", what);
            due.nothing(() -> read(new int[] {0, 0, 5, 0, 1}), -2, "explains", what);
            due.nothing(() -> read(new int[] {0, 1, 5, 0, 1}, new int[] {0, 1, 5, 0, 1}), -2, "explains", what);
            // PEOPLE 0 and 1 never at one value: streets 0 1, trades 0 1, towns 0 1, errors 0 1
            due.nothing(() -> read(new int[] {0, 0, 5, 0, 1}, new int[] {5, 1, 5, 5, 0}, new int[] {0, 0, 5, 0, 1}), -2,
                    "explains", what);
        }
        // an unread letter makes no value have both
        NamesOnLetters x = read(new int[] {0, 0, 5, 0, 1}, new int[] {5, 1, 5, 5, 0});
        x.letter(0, 1, 5, 0, 0);
        for (int what = 0; what < 4; what++) {
            due.call(x, -2, "explains", what);
        }
        x.ring(2, false);
        for (int what = 0; what < 4; what++) {
            due.call(x, 0, "explains", what);
            due.row(x, 1, 1, 0, 1);
        }
    }

    private static void explainsEveryValue() {
        due.says("35: over those of its values in which both PEOPLES have READ LETTERS: STREETS, TRADES, TOWNS 0 .. 3, ERRORS 0 .. 9");
        for (int v = 0; v < 10; v++) {
            int w = v;
            // both at v; at another value PEOPLE 1 alone, which is RUNG
            int other = v == 0 ? 9 : 0;
            NamesOnLetters x = read(new int[] {0, 0, 5, 4 * w, 1}, new int[] {1, 1, 5, 4 * w, 0}, new int[] {2, 1, 5, 4 * other, 1});
            due.call(x, 0, "explains", 3);
            due.row(x, 1, 1, -1, 2);
        }
        for (int v = 0; v < 4; v++) {
            int other = 3 - v;
            NamesOnLetters street = read(new int[] {0, 0, 5, v, 1}, new int[] {1, 1, 5, v, 0}, new int[] {2, 1, 5, other, 1});
            due.call(street, 0, "explains", 0);
            due.row(street, 1, 1, -1, 2);
            NamesOnLetters trade = read(new int[] {v, 0, 5, 0, 1}, new int[] {v + 4, 1, 5, 1, 0}, new int[] {other, 1, 5, 2, 1});
            due.call(trade, 0, "explains", 1);
            due.row(trade, 1, 1, -1, 2);
            NamesOnLetters town = read(new int[] {4 * v, 0, 5, 0, 1}, new int[] {4 * v + 1, 1, 5, 1, 0},
                    new int[] {4 * other, 1, 5, 2, 1});
            due.call(town, 0, "explains", 2);
            due.row(town, 1, 1, -1, 2);
        }
    }

    private static void explainsByLetters() {
        due.says("35: ASIDE in it times how many LETTERS it has (both PEOPLES), by all these LETTERS: ASIDE joined, then the difference");
        // street 0: 2/3 - 1/2 of five; street 1: 0 - 1 of two; street 3: PEOPLE 0 alone
        NamesOnLetters x = read(new int[] {0, 0, 5, 0, 1}, new int[] {0, 0, 5, 0, 1}, new int[] {0, 0, 5, 0, 0},
                new int[] {1, 1, 5, 0, 1}, new int[] {1, 1, 5, 0, 0}, new int[] {2, 0, 5, 1, 0}, new int[] {2, 1, 5, 1, 1},
                new int[] {3, 0, 5, 3, 1});
        // (5/6 - 2) / 7 = -1/6; all: 3/5 - 2/3 = -1/15; -1/15 + 1/6 = 1/10
        for (int again = 0; again < 3; again++) {
            due.call(x, 0, "explains", 0);
            due.row(x, -1, 6, 1, 10);
        }
        // one more of PEOPLE 1 that is alone: of all 3/5 - 1/2
        Due.read(x, 4, 1, 5, 2, false);
        due.call(x, 0, "explains", 0);
        due.row(x, -1, 6, 4, 15);
        // as far apart in each value as in all: nothing is explained
        NamesOnLetters y = read(new int[] {0, 0, 5, 0, 1}, new int[] {0, 1, 5, 0, 0}, new int[] {0, 0, 5, 1, 1}, new int[] {0, 1, 5, 1, 0});
        due.call(y, 0, "explains", 0);
        due.row(y, 1, 1, 0, 1);
        // three errors by 3 and 2, 1 and 4, 5 and 1 letters: 1/3 - 1/2, 1 - 1/4, 2/5 - 0
        int[][] letters = new int[16][];
        int[][] groups = {{3, 1}, {2, 1}, {1, 1}, {4, 1}, {5, 2}, {1, 0}};
        int n = 0;
        for (int g = 0; g < 6; g++) {
            for (int k = 0; k < groups[g][0]; k++) {
                letters[n] = new int[] {n / 4, g % 2, 5, 4 * (g / 2), k < groups[g][1] ? 1 : 0};
                n++;
            }
        }
        // (-5/6 + 15/4 + 12/5) / 16 = 319/960; of all 4/9 - 2/7 = 10/63
        NamesOnLetters z = read(letters);
        due.call(z, 0, "explains", 3);
        due.row(z, 319, 960, -3499, 20160);
    }

    private static void joinArguments() {
        due.says("36: NONE: another what");
        due.range(States::rich, 0, 2, "join", 0, 0);
    }

    private static void joinOfNothing() {
        due.says("36: -2: the lower sum is 0");
        int[][][] none = {{}, {{0, 0, 5, 0, 1}}, {{0, 1, 5, 0, 1}}, {{0, 0, 5, 0, 0}}, {{0, 0, 5, 0, 1}, {0, 1, 5, 0, 0}},
            {{0, 0, 5, 0, 1}, {0, 1, 5, 0, 1}}, {{0, 0, 5, 0, 0}, {0, 1, 5, 0, 0}}, {{0, 0, 5, 0, 0}, {5, 1, 5, 1, 1}}};
        for (int[][] letters : none) {
            for (int what = 0; what < 3; what++) {
                due.nothing(() -> read(letters), -2, "join", what);
            }
        }
        due.says("36: 0 by 1, if the upper sum is 0 alone");
        for (int what = 0; what < 3; what++) {
            NamesOnLetters x = read(new int[] {0, 0, 5, 0, 0}, new int[] {0, 1, 5, 0, 1});
            due.call(x, 0, "join", what);
            due.row(x, 0, 1);
            Due.read(x, 0, 0, 5, 0, true);
            Due.read(x, 0, 1, 5, 0, false);
            due.call(x, 0, "join", what);
            due.row(x, 1, 1);
        }
    }

    private static void joinEveryValue() {
        due.says("36: over TRADES (what 0), TOWNS (1), STREETS (2): the sum over values of .. by LETTERS");
        for (int v = 0; v < 4; v++) {
            // at v: 2 RUNG of 3, and 1 of 2; at another: 1 of 1, and 0 of 1
            int w = 3 - v;
            int[][] at = {{0, 1}, {0, 1}, {0, 0}, {1, 1}, {1, 0}};
            for (int what = 0; what < 3; what++) {
                int[][] letters = new int[7][];
                for (int k = 0; k < 7; k++) {
                    int to = k < 5 ? v : w;
                    int house = what == 0 ? to + 4 * (k / 2) : what == 1 ? 4 * to + k / 2 : k;
                    int[] peopleAndRung = k < 5 ? at[k] : new int[] {k - 5, 6 - k};
                    letters[k] = new int[] {house, peopleAndRung[0], 5, what == 2 ? to : k % 4, peopleAndRung[1]};
                }
                // (2 * 1 / 5 + 1 * 1 / 2) by (1 * 1 / 5)
                NamesOnLetters x = read(letters);
                due.call(x, 0, "join", what);
                due.row(x, 9, 2);
            }
        }
    }

    private static void boundsArguments() {
        due.says("37: NONE: another PEOPLE");
        due.range(States::rich, 0, 1, "bounds", 0, 0);
    }

    private static void boundsOfNone() {
        due.says("37: -2: it has none");
        for (int people = 0; people < 2; people++) {
            int other = 1 - people;
            due.nothing(NamesOnLetters::new, -2, "bounds", people);
            due.nothing(() -> read(new int[] {0, other, 5, 0, 1}), -2, "bounds", people);
            due.nothing(() -> {
                NamesOnLetters x = read(new int[] {0, other, 5, 0, 1});
                x.letter(1, 1 - other, 5, 0, 0);
                x.share(-1);
                return x;
            }, -2, "bounds", people);
            NamesOnLetters x = read(new int[] {0, people, 5, 0, 0});
            due.call(x, 0, "bounds", people);
            due.row(x, 0, 1, 0, 1);
        }
    }

    private static void boundsAtLeastAtMost() {
        due.says("37: TAKEN ON at least and at most (RUNG ones not known could be), each as a share of them. How many are not known");
        for (int people = 0; people < 2; people++) {
            int p = people;
            NamesOnLetters x = read(new int[] {0, p, 5, 0, 1}, new int[] {0, p, 5, 0, 1}, new int[] {0, p, 5, 0, 0},
                    new int[] {0, 1 - p, 5, 0, 1});
            due.call(x, 2, "bounds", p);
            due.row(x, 0, 1, 2, 3);
            int[][] steps = {{0, 1, 1, 1, 3, 2, 3}, {1, 2, 0, 1, 3, 1, 3}, {0, 2, 0, 0, 1, 0, 1}, {0, 0, 1, 0, 1, 1, 3},
                {1, 1, 1, 1, 3, 2, 3}, {0, 1, 0, 2, 3, 2, 3}};
            for (int[] s : steps) {
                x.after(s[0], s[1]);
                due.call(x, s[2], "bounds", p);
                due.row(x, s[3], s[4], s[5], s[6]);
            }
            due.call(x, 1, "bounds", 1 - p);
            due.row(x, 0, 1, 1, 1);
        }
    }

    private static void yearsArguments() {
        due.says("38: WORTH v (0 .. 99). NONE: another v");
        for (int v : new int[] {0, 1, 98, 99}) {
            NamesOnLetters x = read(new int[] {0, 0, 99, 0, 1}, new int[] {0, 1, 99, 0, 1});
            due.call(x, 0, "years", v);
            due.row(x, 1, 1);
        }
        for (int v : new int[] {-1, 100, 101, Integer.MIN_VALUE, Integer.MAX_VALUE}) {
            due.nothing(States::rich, -1, "years", v);
            due.nothing(() -> read(new int[] {0, 0, 99, 0, 1}, new int[] {0, 1, 99, 0, 1}), -1, "years", v);
        }
    }

    private static void yearsNoLess() {
        due.says("38: so that SHARE of LETTERS of PEOPLE 1 with WORTH v + d or more is no less than SHARE of those of PEOPLE 0");
        // PEOPLE 0 from 50 on: 1/2; PEOPLE 1: from 50 on 1/3, from 51 on 1/2
        int[][] letters = {{0, 0, 50, 0, 1}, {0, 0, 51, 0, 0}, {1, 1, 50, 0, 0}, {1, 1, 51, 0, 1}, {1, 1, 52, 0, 0}};
        NamesOnLetters x = read(letters);
        due.call(x, 1, "years", 50);
        due.row(x, 1, 2);
        // from 51 on there is none of PEOPLE 0 that is rung
        due.call(x, 0, "years", 51);
        due.row(x, 1, 2);
        due.call(x, 1, "years", 50);
        due.call(x, 2, "years", 49);
        due.call(x, 51, "years", 0);
        // one just below the half: 1/3 from 51 on
        Due.read(x, 2, 1, 51, 0, false);
        due.call(x, -2, "years", 50);
        due.call(x, 0, "years", 51);
        due.row(x, 1, 3);
        // one just above it
        Due.read(x, 2, 1, 51, 0, true);
        Due.read(x, 2, 1, 51, 0, true);
        due.call(x, 0, "years", 50);
        due.row(x, 1, 2);
    }

    private static void yearsToTheEnd() {
        due.says("38: d (0 .. 99), the least one");
        for (int at = 0; at < 100; at++) {
            NamesOnLetters x = read(new int[] {0, 0, 0, 0, 1}, new int[] {0, 1, at, 0, 1}, new int[] {0, 1, at > 0 ? at - 1 : 0, 0, 0});
            due.call(x, at == 0 ? -2 : at, "years", 0);
        }
        NamesOnLetters x = read(new int[] {0, 0, 99, 0, 1}, new int[] {0, 1, 99, 0, 1}, new int[] {0, 1, 98, 0, 0});
        due.call(x, 0, "years", 99);
        due.call(x, 1, "years", 98);
        due.call(x, 99, "years", 0);
        due.row(x, 1, 1);
    }

    private static void yearsNone() {
        due.says("38: (both have some) -2: none");
        int[][][] none = {{}, {{0, 0, 50, 0, 0}}, {{0, 1, 50, 0, 1}}, {{0, 0, 49, 0, 0}, {0, 1, 99, 0, 1}},
            {{0, 0, 99, 0, 0}, {0, 1, 49, 0, 1}}, {{0, 0, 50, 0, 1}, {0, 1, 99, 0, 0}},
            {{0, 0, 50, 0, 1}, {0, 1, 99, 0, 1}, {0, 1, 99, 0, 0}}};
        for (int[][] letters : none) {
            due.nothing(() -> read(letters), -2, "years", 50);
        }
        // no share of PEOPLE 1 is no less than none
        NamesOnLetters x = read(new int[] {0, 0, 50, 0, 0}, new int[] {0, 1, 50, 0, 0});
        due.call(x, 0, "years", 50);
        due.row(x, 0, 1);
    }

    private static void morningsArguments() {
        due.says("39: read minutes (0 .. 99), ring more (0 .. 99), lost more (0 .. 999). NONE: others");
        due.range(States::rich, 0, 99, "mornings", 0, 5, 6, 7);
        due.range(States::rich, 0, 99, "mornings", 1, 5, 6, 7);
        due.range(States::rich, 0, 999, "mornings", 2, 5, 6, 7);
    }

    private static void morningsMost() {
        due.says("39: the sum; the HOUSE that it took the most (of equal ones the first; NONE without HOUSES), its sum");
        NamesOnLetters none = new NamesOnLetters();
        none.pairs();
        due.call(none, 0, "mornings", 99, 99, 999);
        due.row(none, -1, 0);
        none.house(0, 0, 0);
        none.house(0, 0, 0);
        due.call(none, 0, "mornings", 99, 99, 999);
        due.row(none, 0, 0);
        NamesOnLetters x = read(new int[] {1, 0, 5, 0, 1}, new int[] {2, 0, 5, 0, 0}, new int[] {2, 1, 5, 0, 0}, new int[] {23, 0, 5, 0, 1});
        due.call(x, 0, "mornings", 0, 0, 0);
        due.row(x, 0, 0);
        due.call(x, 8, "mornings", 1, 2, 999);
        due.row(x, 1, 3);
        due.call(x, 6, "mornings", 1, 1, 999);
        due.row(x, 1, 2);
        due.call(x, 4, "mornings", 1, 0, 999);
        due.row(x, 2, 2);
        due.says("39: each one that is RUNG, and known not to be TAKEN ON, lost more");
        x.after(3, 2);
        due.call(x, 5, "mornings", 1, 0, 1);
        due.row(x, 2, 2);
        due.call(x, 6, "mornings", 1, 0, 2);
        due.row(x, 23, 3);
        due.call(x, 4 * 99 + 2 * 99 + 999, "mornings", 99, 99, 999);
        due.row(x, 23, 1197);
        x.after(3, 1);
        x.after(0, 0);
        due.call(x, 4, "mornings", 1, 0, 999);
        // a full one: 96 letters, all lost
        NamesOnLetters full = States.dealt(24);
        full.box(2, 96, 1, 0);
        for (int i = 0; i < 96; i++) {
            full.after(i, 2);
        }
        due.call(full, 96 * 1197, "mornings", 99, 99, 999);
        due.row(full, 0, 4 * 1197);
    }
}
