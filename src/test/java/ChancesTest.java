/** Promises 44 and 45: shows, least. */
public final class ChancesTest {
    private static final Due due = new Due("chances");

    public static void main(String[] args) {
        shows();
        showsRefused();
        showsAll();
        least();
        leastRefused();
        due.end();
    }

    private static void shows() {
        NamesOnLetters x = new NamesOnLetters();
        due.call(x, 1000000, "shows", 1, 100, 0, 1);
        due.call(x, 250000, "shows", 1, 50, 50, 1);
        // 30 of a hundred by 85 of a hundred
        due.call(x, 255000, "shows", 1, 30, 15, 1);
        // one more of two: (1/2 * 1/4) + (1/4 * 3/4)
        due.call(x, 312500, "shows", 2, 50, 50, 1);
        due.call(x, 62500, "shows", 2, 50, 50, 2);
        due.call(x, 0, "shows", 2, 50, 50, 3);
        due.call(x, 0, "shows", 2, 0, 100, 1);
        due.call(x, 1000000, "shows", 16, 100, 0, 16);
        // cut, not rounded: 99^3 by 99^3 is 941480149401 of 10^12
        due.call(x, 941480, "shows", 3, 99, 1, 3);
        // 0.5^32 in parts of a million is below one
        due.call(x, 0, "shows", 16, 50, 50, 16);
        due.row(x);
    }

    private static void showsRefused() {
        NamesOnLetters x = new NamesOnLetters();
        int[][] wrong = {{0, 1, 1, 1}, {17, 1, 1, 1}, {1, -1, 1, 1}, {1, 101, 1, 1}, {1, 1, -1, 1}, {1, 1, 101, 1},
            {1, 1, 1, 0}, {1, 1, 1, 17}, {Integer.MIN_VALUE, 1, 1, 1}, {1, 1, 1, Integer.MAX_VALUE}};
        for (int[] a : wrong) {
            due.refused(x, "shows", a);
        }
    }

    /** Against whole numbers without a bound. */
    private static void showsAll() {
        NamesOnLetters x = new NamesOnLetters();
        int[] percents = {0, 1, 15, 30, 37, 50, 99, 100};
        for (int n = 1; n <= 16; n++) {
            for (int zero : percents) {
                for (int one : percents) {
                    int off = 1 + (n + zero + one) % 6;
                    due.call(x, Model.shows(n, zero, one, off), "shows", n, zero, one, off);
                }
            }
        }
    }

    private static void least() {
        NamesOnLetters x = new NamesOnLetters();
        due.call(x, 1, "least", 100, 0, 1000000, 0);
        due.row(x, 1);
        // one letter: 500000 of power, and wrong in 250000 cases at most
        due.call(x, 1, "least", 100, 50, 500000, 250000);
        due.row(x, 1);
        // wrong in fewer: two letters, of which both are more, in 62500 cases; that has 250000 of power
        due.call(x, 2, "least", 100, 50, 250000, 249999);
        due.row(x, 2);
        due.call(x, -2, "least", 30, 30, 999999, 0);
        due.call(x, -2, "least", 0, 100, 1, 1000000);
        due.row(x, 2);
        Model model = new Model();
        int[][] more = {{60, 10, 800000, 50000}, {50, 20, 500000, 100000}, {90, 40, 900000, 50000}, {35, 25, 300000, 300000},
            {70, 30, 580000, 20000}, {70, 30, 640000, 20000}};
        for (int[] a : more) {
            due.call(x, model.call("least", a), "least", a);
            due.call(x, model.row.get(0), "row", 0);
        }
    }

    private static void leastRefused() {
        NamesOnLetters x = new NamesOnLetters();
        int[][] wrong = {{-1, 0, 1, 0}, {101, 0, 1, 0}, {0, -1, 1, 0}, {0, 101, 1, 0}, {100, 0, 0, 0},
            {100, 0, 1000001, 0}, {100, 0, 1, -1}, {100, 0, 1, 1000001}};
        for (int[] a : wrong) {
            due.refused(x, "least", a);
        }
        due.row(x);
        due.call(x, 1, "least", 100, 0, 1, 1000000);
    }
}
