/** Promises 46 to 49: keep, again, count, row. */
public final class KeptTest {
    private static final Due due = new Due("kept");

    public static void main(String[] args) {
        keepAndAgain();
        lettersToldSince();
        refused();
        counts();
        rows();
        due.end();
    }

    private static NamesOnLetters dealt() {
        NamesOnLetters x = new NamesOnLetters();
        Due.names(x, "0011");
        x.house(0, 0, 0);
        x.house(0, 0, 0);
        x.deal(0, 1, 2);
        return x;
    }

    private static void keepAndAgain() {
        NamesOnLetters x = dealt();
        x.ring(0, true);
        x.ring(1, false);
        x.after(0, 2);
        x.seed(77);
        due.call(x, 1, "keep", 1);
        x.after(0, 1);
        x.ring(2, true);
        x.deal(1, 3, 4);
        x.asked(0, 1, 1);
        Due.law(x, 0, "w");
        due.call(x, 1, "again", 1);
        long[][] state = {{1, 1, 2}, {1, 0, 0}, {0, 0, 0}, {0, 0, 0}};
        for (int i = 0; i < 4; i++) {
            for (int k = 0; k < 3; k++) {
                due.call(x, state[i][k], "of", i, 6 + k);
            }
        }
        due.call(x, 4, "count", 2);
        due.thrown(x, "of", 4, 0);
        due.call(x, 77, "seed", 5);
        due.call(x, 0, "count", 7);
        due.call(x, 1, "count", 5);
        // it can be brought back more than once, and kept anew
        due.call(x, 1, "again", 1);
        due.call(x, 77, "seed", 6);
        due.call(x, 1, "keep", 1);
        due.call(x, 1, "again", 1);
        due.call(x, 6, "seed", 6);
    }

    private static void lettersToldSince() {
        NamesOnLetters x = dealt();
        x.keep(0);
        x.letter(1, 0, 50, 0, 1);
        x.ring(4, true);
        x.keep(2);
        x.again(0);
        due.call(x, 4, "letter", 1, 2, 60, 4, 2);
        // letter 4 is the one told last, read and rung as the other one was
        due.call(x, 1, "again", 2);
        long[] told = {1, 2, 60, 1, 0, 2, 1, 1, 0};
        for (int what = 0; what < 9; what++) {
            due.call(x, told[what], "of", 4, what);
        }
        // a letter told anew has nothing of the one before
        x.again(0);
        x.letter(1, 0, 50, 0, 1);
        due.call(x, 0, "of", 4, 6);
        due.call(x, 0, "of", 4, 7);
    }

    private static void refused() {
        NamesOnLetters x = dealt();
        for (int i : new int[] {-1, 3, Integer.MIN_VALUE, Integer.MAX_VALUE}) {
            due.call(x, 0, "keep", i);
            due.call(x, 0, "again", i);
        }
        for (int i = 0; i < 3; i++) {
            due.call(x, 0, "again", i);
        }
        x.keep(0);
        x.deal(1, 1, 1);
        x.keep(1);
        x.again(0);
        x.asked(0, 1, 1);
        // there are fewer letters now
        due.call(x, 0, "again", 1);
        due.call(x, 1, "count", 7);
        due.call(x, 0, "again", 2);
        NamesOnLetters y = new NamesOnLetters();
        due.call(y, 1, "keep", 0);
        due.call(y, 1, "again", 0);
    }

    private static void counts() {
        NamesOnLetters x = dealt();
        Due.law(x, 1, "w");
        Due.law(x, 4, "w");
        Due.filter(x, 5, "w");
        x.ring(0, true);
        x.ring(1, false);
        x.ring(2, true);
        x.asked(0, 1, 1);
        x.pairs();
        x.sign(0);
        x.end(3);
        long[] want = {4, 2, 4, 3, 2, 18, 32, 1, 6, 3};
        for (int what = 0; what < 10; what++) {
            due.call(x, want[what], "count", what);
        }
        due.refused(x, "count", 10);
        due.refused(x, "count", -1);
        due.refused(x, "count", Integer.MIN_VALUE);
    }

    private static void rows() {
        NamesOnLetters x = dealt();
        due.thrown(x, "row", 0);
        x.pairs();
        due.row(x, -1, -1, -1, -1, -1, -1);
        // a shorter row leaves nothing of a longer one
        x.says();
        due.row(x, 0);
        due.thrown(x, "row", Integer.MAX_VALUE);
        due.thrown(x, "row", Integer.MIN_VALUE);
        // calls that tell no row leave it
        x.shows(1, 50, 50, 1);
        x.table(0, 0);
        x.ask();
        x.aside(-1);
        due.row(x, 0);
    }
}
