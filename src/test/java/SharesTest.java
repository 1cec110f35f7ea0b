/** Promises 17 to 20: share, aside, odds, weighs. */
public final class SharesTest {
    private static final Due due = new Due("shares");

    public static void main(String[] args) {
        shares();
        asides();
        odds();
        oddsOfAll();
        weighs();
        weighsNone();
        due.end();
    }

    /** House 0: rings for two of PEOPLE 0, none of two of PEOPLE 1; house 1: one and one; house 2: not read. */
    private static NamesOnLetters three() {
        NamesOnLetters x = new NamesOnLetters();
        Due.names(x, "01");
        for (int h = 0; h < 3; h++) {
            x.house(h, h, 0);
        }
        Due.read(x, 0, 0, 20, 0, true);
        Due.read(x, 0, 0, 40, 4, true);
        Due.read(x, 0, 1, 20, 0, false);
        Due.read(x, 0, 1, 40, 4, false);
        Due.read(x, 1, 0, 60, 0, false);
        Due.read(x, 1, 1, 60, 0, true);
        x.letter(2, 0, 60, 0, 0);
        return x;
    }

    private static void shares() {
        NamesOnLetters x = three();
        due.call(x, 6, "share", -1);
        due.row(x, 1, 2);
        Due.filter(x, 2, "w>20");
        due.call(x, 4, "share", 2);
        due.row(x, 1, 2);
        Due.filter(x, 3, "w>20&!p");
        due.call(x, 2, "share", 3);
        due.row(x, 1, 2);
        Due.filter(x, 4, "-r");
        due.call(x, 3, "share", 4);
        due.row(x, 1, 1);
        Due.filter(x, 4, "r=1");
        due.call(x, 3, "share", 4);
        Due.filter(x, 5, "p&w<60");
        due.call(x, 2, "share", 5);
        due.row(x, 0, 1);
        for (int f : new int[] {0, 1, 6, -2, Integer.MIN_VALUE, Integer.MAX_VALUE}) {
            due.refused(x, "share", f);
        }
        due.row(x, 0, 1);
        Due.filter(x, 0, "w>60");
        due.call(x, 0, "share", 0);
        due.row(x);
    }

    private static void asides() {
        NamesOnLetters x = three();
        due.call(x, 0, "aside", -1);
        due.row(x, 1, 3, 3, 2, 3, 1);
        Due.filter(x, 0, "w=60");
        due.call(x, 0, "aside", 0);
        due.row(x, -1, 1, 1, 0, 1, 1);
        Due.filter(x, 1, "!r");
        due.call(x, 0, "aside", 1);
        due.row(x, 0, 1, 1, 0, 2, 0);
        Due.filter(x, 2, "p");
        due.call(x, -2, "aside", 2);
        Due.filter(x, 3, "!p");
        due.call(x, -2, "aside", 3);
        due.refused(x, "aside", 4);
        due.refused(x, "aside", -2);
        due.refused(x, "aside", 6);
        due.row(x, 0, 1, 1, 0, 2, 0);
        due.call(new NamesOnLetters(), -2, "aside", -1);
    }

    private static void odds() {
        NamesOnLetters x = three();
        // house 0: 0, 1, 2 rings of PEOPLE 1 in 1, 4, 1 ways; house 1: 0, 1 in 1, 1: so 1 of 12 has 0, 5 have 1
        due.call(x, 0, "odds", -1, 0);
        due.row(x, 1, 2);
        due.call(x, 0, "odds", -1, 1);
        due.row(x, 11, 12);
        due.call(x, 0, "odds", -1, 2);
        due.row(x, 5, 12);
        Due.filter(x, 0, "w<60");
        due.call(x, 0, "odds", 0, 0);
        due.row(x, 1, 6);
        due.call(x, 0, "odds", 0, 1);
        due.row(x, 1, 1);
        int[][] wrong = {{-1, 3}, {-1, -1}, {1, 0}, {-2, 0}, {6, 0}};
        for (int[] a : wrong) {
            due.refused(x, "odds", a);
        }
        due.row(x, 1, 1);
        due.call(new NamesOnLetters(), 0, "odds", -1, 2);
    }

    /** Twenty-four houses by six ways: the lower number is near the end of a long. */
    private static void oddsOfAll() {
        NamesOnLetters x = new NamesOnLetters();
        Due.names(x, "01");
        for (int h = 0; h < 24; h++) {
            x.house(0, 0, 0);
            Due.read(x, h, 0, true);
            Due.read(x, h, 0, true);
            Due.read(x, h, 1, false);
            Due.read(x, h, 1, false);
        }
        due.call(x, 0, "odds", -1, 0);
        due.row(x, 1, 4738381338321616896L);
        due.call(x, 0, "odds", -1, 1);
        due.row(x, 1, 1);
        NamesOnLetters y = new NamesOnLetters();
        Due.names(y, "1");
        for (int h = 0; h < 24; h++) {
            y.house(0, 0, 0);
            for (int k = 0; k < 4; k++) {
                Due.read(y, h, 0, true);
            }
        }
        due.call(y, 0, "odds", -1, 2);
        due.row(y, 1, 1);
    }

    private static void weighs() {
        NamesOnLetters x = three();
        // all: 2/3 - 1/3; without house 0: 0 - 1; without house 1: 1 - 0
        due.call(x, 0, "weighs");
        due.row(x, -1, 1);
        NamesOnLetters y = new NamesOnLetters();
        Due.names(y, "01");
        for (int h = 0; h < 3; h++) {
            y.house(0, 0, 0);
            Due.read(y, h, 0, true);
            Due.read(y, h, 1, false);
        }
        // nothing changes it: of equal ones the first
        due.call(y, 0, "weighs");
        due.row(y, 1, 1);
        weighsByHouses();
    }

    private static void weighsByHouses() {
        NamesOnLetters x = new NamesOnLetters();
        Due.names(x, "01");
        for (int h = 0; h < 4; h++) {
            x.house(0, 0, 0);
        }
        Due.read(x, 0, 0, true);
        Due.read(x, 0, 1, false);
        Due.read(x, 1, 0, true);
        Due.read(x, 1, 0, true);
        Due.read(x, 1, 1, false);
        Due.read(x, 1, 1, false);
        Due.read(x, 2, 0, false);
        Due.read(x, 2, 1, true);
        Due.read(x, 2, 1, true);
        Due.read(x, 3, 0, false);
        Due.read(x, 3, 1, false);
        Due.read(x, 3, 1, true);
        // 3/5 - 3/7 of all; it becomes 0, -4/15, 11/20, 7/20 without each
        due.call(x, 1, "weighs");
        due.row(x, -4, 15);
    }

    private static void weighsNone() {
        NamesOnLetters x = new NamesOnLetters();
        due.call(x, -2, "weighs");
        Due.names(x, "01");
        x.house(0, 0, 0);
        x.house(0, 0, 0);
        x.house(0, 0, 0);
        Due.read(x, 1, 0, true);
        due.call(x, -2, "weighs");
        Due.read(x, 1, 1, true);
        // without house 1 some people has none, the others have no read letters
        due.call(x, -2, "weighs");
        due.row(x);
        Due.read(x, 2, 1, false);
        due.call(x, 2, "weighs");
        due.row(x, 0, 1);
    }
}
