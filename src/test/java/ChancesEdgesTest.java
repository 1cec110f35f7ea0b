/** The edges of promises 44 and 45: shows, least. */
public final class ChancesEdgesTest {
    private static final Due due = new Due("edges of chances");

    public static void main(String[] args) {
        showsArguments();
        showsByOff();
        showsCut();
        showsAllEnds();
        leastArguments();
        leastPower();
        leastWrong();
        leastOfSixteen();
        leastOff();
        leastNone();
        due.end();
    }

    private static void showsArguments() {
        due.says("44: n (1 .. 16), zero and one of a hundred, off (1 .. 16). NONE: others");
        due.range(States::rich, 1, 16, "shows", 0, 1, 50, 50, 1);
        due.range(States::rich, 0, 100, "shows", 1, 1, 50, 50, 1);
        due.range(States::rich, 0, 100, "shows", 2, 1, 50, 50, 1);
        due.range(States::rich, 1, 16, "shows", 3, 1, 50, 50, 1);
        due.nothing(States::rich, 250000, "shows", 1, 50, 50, 1);
    }

    private static void showsByOff() {
        due.says("44: more are RUNG by off at least than of n of PEOPLE 1");
        NamesOnLetters x = new NamesOnLetters();
        for (int n = 1; n <= 16; n++) {
            for (int off = 1; off <= 16; off++) {
                // n of n against none: just as many are off at most
                due.call(x, off <= n ? 1000000 : 0, "shows", n, 100, 0, off);
                due.call(x, 0, "shows", n, 0, 0, off);
                due.call(x, 0, "shows", n, 100, 100, off);
                due.call(x, 0, "shows", n, 0, 100, off);
                due.call(x, off <= n ? Model.shows(n, 50, 50, off) : 0, "shows", n, 50, 50, off);
            }
        }
        // 1/2 and 1/2 of two: 1, 4, 6, 4, 1 of 16 are two less, one less, as many, one more, two more
        due.call(x, 312500, "shows", 2, 50, 50, 1);
        due.call(x, 62500, "shows", 2, 50, 50, 2);
        due.call(x, 0, "shows", 2, 50, 50, 3);
    }

    private static void showsCut() {
        due.says("44: in parts of 1000000 (exactly, cut once)");
        NamesOnLetters x = new NamesOnLetters();
        // 0.99^3 * 0.99^3 = 0.941480149401; 1 less 0.01^n is below 1, and told as 999999
        due.call(x, 941480, "shows", 3, 99, 1, 3);
        due.call(x, 999999, "shows", 3, 99, 0, 1);
        due.call(x, 999999, "shows", 4, 99, 0, 1);
        due.call(x, 999999, "shows", 16, 99, 0, 1);
        due.call(x, 990000, "shows", 1, 99, 0, 1);
        due.call(x, 999900, "shows", 2, 99, 0, 1);
        // 0.01^3 is one part, 0.01^4 none
        due.call(x, 1, "shows", 3, 1, 0, 3);
        due.call(x, 0, "shows", 3, 1, 1, 3);
        due.call(x, 0, "shows", 4, 1, 0, 4);
        due.call(x, 100, "shows", 2, 1, 0, 2);
        due.call(x, 10000, "shows", 1, 1, 0, 1);
        due.call(x, 9900, "shows", 1, 1, 1, 1);
        // 1 less 0.99^16 is 0.1485422...
        due.call(x, 148542, "shows", 16, 1, 0, 1);
        due.call(x, 851457, "shows", 16, 100, 1, 16);
        due.call(x, 851457, "shows", 16, 99, 0, 16);
    }

    private static void showsAllEnds() {
        due.says("44: exactly");
        NamesOnLetters x = new NamesOnLetters();
        int[] percents = {0, 1, 2, 33, 50, 51, 98, 99, 100};
        for (int n = 1; n <= 16; n++) {
            for (int zero : percents) {
                for (int one : percents) {
                    for (int off : new int[] {1, n / 2 + 1, n, Math.min(16, n + 1)}) {
                        due.call(x, Model.shows(n, zero, one, off), "shows", n, zero, one, off);
                    }
                }
            }
        }
    }

    private static void leastArguments() {
        due.says("45: power (1 .. 1000000), wrong (0 .. 1000000). NONE: others");
        due.range(States::rich, 0, 100, "least", 0, 100, 0, 1, 1000000);
        due.range(States::rich, 1, 1000000, "least", 2, 100, 0, 1, 1000000);
        due.range(States::rich, 0, 1000000, "least", 3, 100, 0, 1, 1000000);
        for (int one : new int[] {0, 1, 99}) {
            due.call(States.rich(), 1, "least", 100, one, 1, 1000000);
        }
        due.nothing(States::rich, -2, "least", 100, 100, 1, 1000000);
        due.nothing(States::rich, -2, "least", 0, 0, 1, 1000000);
        for (int v : new int[] {-1, 101, Integer.MIN_VALUE, Integer.MAX_VALUE}) {
            due.nothing(States::rich, -1, "least", 100, v, 1, 1000000);
        }
    }

    private static void least(int zero, int one, int power, int wrong, int n, int off) {
        NamesOnLetters x = new NamesOnLetters();
        x.pairs();
        due.call(x, n, "least", zero, one, power, wrong);
        if (n > 0) {
            due.row(x, off);
        } else {
            due.row(x, -1, -1, -1, -1, -1, -1);
        }
    }

    private static void leastPower() {
        due.says("45: that chance (as it is told there, cut) is power at least");
        // one letter: 0.6 * 0.8; two: 0.7104 of one more at least
        least(60, 20, 479999, 1000000, 1, 1);
        least(60, 20, 480000, 1000000, 1, 1);
        int two = Model.shows(2, 60, 20, 1);
        least(60, 20, 480001, 1000000, 2, 1);
        least(60, 20, two, 1000000, 2, 1);
        least(60, 20, two + 1, 1000000, 3, 1);
        // cut: it is never told as 1000000
        least(99, 0, 999999, 1000000, 3, 1);
        least(99, 0, 1000000, 1000000, -2, 0);
        least(100, 0, 1000000, 0, 1, 1);
    }

    private static void leastWrong() {
        due.says("45: and, were both RUNG in one of a hundred cases, is wrong at most");
        // one letter, 20 of a hundred: 0.2 * 0.8
        least(60, 20, 1, 160001, 1, 1);
        least(60, 20, 1, 160000, 1, 1);
        // two letters, two more: 0.04 * 0.64
        least(60, 20, 1, 159999, 2, 2);
        least(60, 20, 1, 25600, 2, 2);
        least(60, 20, 1, 25599, 3, 3);
        // cut: 0.01^3 * 0.99^3 is told as 0
        least(100, 1, 970299, 0, 3, 3);
        // 0.99^4 is less than that; of five letters four more are enough: 0.99^5 + 5 * 0.01 * 0.99^4
        least(100, 1, 970300, 0, 5, 4);
        least(100, 1, 999019, 0, 5, 4);
        least(100, 1, 999020, 0, 6, 4);
        least(100, 1, 1, 9900, 1, 1);
        least(100, 1, 1, 9899, 2, 2);
        least(50, 0, 1, 0, 1, 1);
    }

    private static void leastOfSixteen() {
        due.says("45: The least n (1 .. 16). -2: none");
        int[][] cases = {{60, 40, 50000}, {35, 25, 100000}, {90, 70, 20000}, {50, 49, 400000}};
        for (int[] c : cases) {
            int[] best = new int[17];
            int[] off = new int[17];
            for (int n = 1; n <= 16; n++) {
                for (int o = n; o >= 1; o--) {
                    if (Model.shows(n, c[1], c[1], o) <= c[2]) {
                        best[n] = Model.shows(n, c[0], c[1], o);
                        off[n] = o;
                    }
                }
            }
            int before = 0;
            for (int n = 1; n <= 16; n++) {
                if (best[n] > before) {
                    least(c[0], c[1], best[n], c[2], n, off[n]);
                    least(c[0], c[1], before + 1, c[2], n, off[n]);
                    before = best[n];
                }
            }
            least(c[0], c[1], before + 1, c[2], -2, 0);
        }
        // sixteen alone reach it: 1 less 0.99^16, and 1 less 0.99^15
        least(1, 0, 148542, 0, 16, 1);
        least(1, 0, 148543, 0, -2, 0);
        least(1, 0, 139941, 0, 15, 1);
        least(1, 0, 139942, 0, 16, 1);
    }

    private static void leastOff() {
        due.says("45: the ROW: the least such off for it");
        // n of n against none: any off from 1 on would do
        least(100, 0, 1000000, 1000000, 1, 1);
        NamesOnLetters x = new NamesOnLetters();
        Model model = new Model();
        for (int zero = 5; zero <= 100; zero += 19) {
            for (int one = 0; one <= 80; one += 16) {
                int[] a = {zero, one, 400000, 30000};
                due.call(x, model.call("least", a), "least", a);
                due.call(x, model.row.isEmpty() ? Model.THROWS : model.row.get(0), "row", 0);
            }
        }
    }

    private static void leastNone() {
        due.says("45: -2: none");
        int[][] none = {{0, 100, 1, 1000000}, {0, 0, 1, 1000000}, {100, 100, 1, 1000000}, {30, 30, 999999, 0},
            {50, 50, 500000, 1000000}, {10, 90, 999999, 1000000}};
        for (int[] a : none) {
            due.nothing(States::rich, -2, "least", a);
        }
    }
}
