/** The edges of promises 1 to 6: a new object, name, house, letter, deal, of. */
public final class LettersEdgesTest {
    private static final Due due = new Due("edges of letters");

    public static void main(String[] args) {
        nothingTold();
        nameArguments();
        classAndTaken();
        twelveNames();
        houseArguments();
        twentyFourHouses();
        letterArguments();
        errorsAndStreet();
        fourToAHouse();
        ninetySixLetters();
        dealArguments();
        dealToAHouseThatHasNone();
        fewerThanTwoNames();
        dealUpToNinetySix();
        dealtByPeople();
        dealtByDraws();
        dealtAtTheEnds();
        ofArguments();
        ofReadAndRung();
        due.end();
    }

    private static void nothingTold() {
        due.says("1: Nothing told");
        for (int what = 0; what < 10; what++) {
            due.call(new NamesOnLetters(), 0, "count", what);
        }
        due.nothing(NamesOnLetters::new, Model.THROWS, "of", 0, 0);
        due.nothing(NamesOnLetters::new, Model.THROWS, "value", 0, 0);
        due.nothing(NamesOnLetters::new, Model.THROWS, "row", 0);
        due.nothing(NamesOnLetters::new, 0, "ring", 0, 1);
        due.nothing(NamesOnLetters::new, -1, "after", 0, 0);
        due.nothing(NamesOnLetters::new, -1, "letter", 0, 0, 0, 0, 0);
        due.nothing(NamesOnLetters::new, -1, "deal", 0, 0, 0);
        due.nothing(NamesOnLetters::new, -1, "names", 0);
        due.nothing(NamesOnLetters::new, -1, "likely", 0, 0);
        due.nothing(NamesOnLetters::new, -1, "asked", 0, 1, 1);
        due.nothing(NamesOnLetters::new, 0, "read", 96);
        due.nothing(NamesOnLetters::new, 0, "box", 3, 0, 0, 0);
        due.nothing(NamesOnLetters::new, 0, "box", 2, 96, 1, 0);
        for (int i = 0; i < 3; i++) {
            due.nothing(NamesOnLetters::new, 0, "again", i);
        }
        for (int i = 0; i < 6; i++) {
            due.nothing(NamesOnLetters::new, -1, "share", i);
        }
        due.call(new NamesOnLetters(), 0, "pairs");
        due.call(new NamesOnLetters(), 0, "nearly", 40);
        due.call(new NamesOnLetters(), 0, "sure", 15, 0);
        due.call(new NamesOnLetters(), 0, "table", 0, 0);
        // an object has nothing of another one
        States.rich();
        due.call(new NamesOnLetters(), 0, "name", 0, 0, 0);
        due.call(new NamesOnLetters(), 1, "seed", 1);
    }

    private static void nameArguments() {
        due.says("2: a PEOPLE 0 or 1, a SEX 0 or 1, a CLASS 0 .. 9, TAKEN 0 .. 100; ct: 101 times CLASS, and TAKEN");
        due.range(States::rich, 0, 1, "name", 0, 0, 0, 0);
        due.range(States::rich, 0, 1, "name", 1, 0, 0, 0);
        due.range(States::rich, 0, 1009, "name", 2, 0, 0, 0);
    }

    private static void classAndTaken() {
        int[][] cases = {{0, 0, 0}, {1, 0, 1}, {99, 0, 99}, {100, 0, 100}, {101, 1, 0}, {102, 1, 1}, {201, 1, 100},
            {202, 2, 0}, {908, 8, 100}, {909, 9, 0}, {1008, 9, 99}, {1009, 9, 100}};
        for (int[] c : cases) {
            for (int people = 0; people < 2; people++) {
                for (int sex = 0; sex < 2; sex++) {
                    NamesOnLetters x = new NamesOnLetters();
                    x.house(0, 0, 0);
                    due.call(x, 0, "name", people, sex, c[0]);
                    x.letter(0, 0, 0, 0, 0);
                    Due.law(x, 0, "p*2+x");
                    Due.law(x, 1, "c");
                    Due.law(x, 2, "a");
                    due.call(x, people * 2 + sex, "value", 0, 0);
                    due.call(x, c[1], "value", 1, 0);
                    due.call(x, c[2], "value", 2, 0);
                }
            }
        }
    }

    private static NamesOnLetters withNames(int n) {
        NamesOnLetters x = new NamesOnLetters();
        for (int i = 0; i < n; i++) {
            due.call(x, i, "name", i % 2, i / 2 % 2, 84 * i);
        }
        x.house(0, 0, 0);
        x.letter(0, n - 1, 0, 0, 0);
        return x;
    }

    private static void twelveNames() {
        due.says("2: its number. Refused: 12");
        due.call(withNames(10), 10, "name", 0, 0, 0);
        due.call(withNames(11), 11, "name", 0, 0, 0);
        due.nothing(() -> withNames(12), -1, "name", 0, 0, 0);
        due.nothing(() -> withNames(12), -1, "name", 1, 1, 1009);
        NamesOnLetters x = withNames(12);
        Due.law(x, 0, "a+c*101");
        due.call(x, 84 * 11, "value", 0, 0);
    }

    private static void houseArguments() {
        due.says("3: a TRADE 0 .. 3, a TOWN 0 .. 3, a LAW 0 .. 5");
        due.range(States::rich, 0, 3, "house", 0, 0, 0, 0);
        due.range(States::rich, 0, 3, "house", 1, 0, 0, 0);
        due.range(States::rich, 0, 5, "house", 2, 0, 0, 0);
        for (int trade = 0; trade < 4; trade++) {
            for (int town = 0; town < 4; town++) {
                NamesOnLetters x = new NamesOnLetters();
                Due.names(x, "0");
                due.call(x, 0, "house", trade, town, 5);
                x.letter(0, 0, 0, 0, 0);
                Due.law(x, 0, "t*10+o");
                due.call(x, trade * 10 + town, "value", 0, 0);
            }
        }
    }

    private static NamesOnLetters withHouses(int n) {
        NamesOnLetters x = new NamesOnLetters();
        Due.names(x, "01");
        for (int h = 0; h < n; h++) {
            due.call(x, h, "house", h % 4, 0, 0);
        }
        return x;
    }

    private static void twentyFourHouses() {
        due.says("3: its number. Refused: 24");
        due.call(withHouses(22), 22, "house", 0, 0, 0);
        due.call(withHouses(23), 23, "house", 0, 0, 0);
        due.nothing(() -> withHouses(24), -1, "house", 0, 0, 0);
        due.nothing(() -> withHouses(24), -1, "house", 3, 3, 5);
        due.call(withHouses(24), 0, "letter", 23, 0, 0, 0, 0);
        due.nothing(() -> withHouses(24), -1, "letter", 24, 0, 0, 0, 0);
        due.nothing(() -> withHouses(23), -1, "letter", 23, 0, 0, 0, 0);
    }

    private static void letterArguments() {
        due.says("4: to a HOUSE, of a NAME, WORTH 0 .. 99, ERRORS 0 .. 9, a STREET 0 .. 3, a DAY 0 .. 399");
        due.range(States::rich, 0, 3, "letter", 0, 3, 0, 50, 6, 100);
        due.range(States::rich, 0, 4, "letter", 1, 3, 0, 50, 6, 100);
        due.range(States::rich, 0, 99, "letter", 2, 3, 0, 50, 6, 100);
        due.range(States::rich, 0, 39, "letter", 3, 3, 0, 50, 6, 100);
        due.range(States::rich, 0, 399, "letter", 4, 3, 0, 50, 6, 100);
    }

    private static void errorsAndStreet() {
        due.says("4: es: 4 times ERRORS, and STREET");
        int[][] cases = {{0, 0, 0}, {1, 0, 1}, {2, 0, 2}, {3, 0, 3}, {4, 1, 0}, {5, 1, 1}, {35, 8, 3}, {36, 9, 0},
            {38, 9, 2}, {39, 9, 3}};
        for (int[] c : cases) {
            NamesOnLetters x = States.rich();
            due.call(x, 9, "letter", 3, 4, 99, c[0], 399);
            long[] told = {3, 4, 99, c[1], c[2], 399, 0, 0, 0};
            for (int what = 0; what < 9; what++) {
                due.call(x, told[what], "of", 9, what);
            }
            x.end(0);
            Due.law(x, 0, "e*10+s");
            due.call(x, c[1] * 10 + c[2], "value", 0, 9);
        }
    }

    private static NamesOnLetters lettersTo(int... houses) {
        NamesOnLetters x = withHouses(24);
        for (int k = 0; k < houses.length; k++) {
            due.call(x, k, "letter", houses[k], k % 2, k, 0, k);
        }
        return x;
    }

    private static void fourToAHouse() {
        due.says("4: Refused: 4 to that HOUSE");
        due.call(lettersTo(5, 5), 2, "letter", 5, 0, 0, 0, 0);
        due.call(lettersTo(5, 5, 5), 3, "letter", 5, 0, 0, 0, 0);
        due.nothing(() -> lettersTo(5, 5, 5, 5), -1, "letter", 5, 0, 0, 0, 0);
        due.nothing(() -> lettersTo(5, 4, 5, 6, 5, 4, 5), -1, "letter", 5, 1, 99, 39, 399);
        due.call(lettersTo(5, 5, 5, 5), 4, "letter", 4, 0, 0, 0, 0);
        due.call(lettersTo(5, 5, 5, 5), 4, "letter", 6, 0, 0, 0, 0);
    }

    private static NamesOnLetters almostFull(int missing) {
        NamesOnLetters x = withHouses(24);
        for (int i = 0; i < 96 - missing; i++) {
            x.letter(i / 4, i % 2, i, 0, 0);
        }
        return x;
    }

    private static void ninetySixLetters() {
        due.says("4: its number. Refused: 96");
        due.call(almostFull(2), 94, "letter", 23, 0, 0, 0, 0);
        due.call(almostFull(1), 95, "letter", 23, 0, 0, 0, 0);
        for (int house : new int[] {0, 22, 23}) {
            due.nothing(() -> almostFull(0), -1, "letter", house, 0, 0, 0, 0);
        }
        due.call(almostFull(0), 96, "count", 2);
        due.call(almostFull(0), 95, "of", 95, 2);
        due.thrown(almostFull(0), "of", 96, 2);
        due.thrown(almostFull(1), "of", 95, 2);
    }

    private static void dealArguments() {
        due.says("5: WORTH: low for the first of its PEOPLE, high for the second one (0 .. 99)");
        due.range(States::unwritten, 0, 3, "deal", 0, 0, 50, 50);
        due.range(States::unwritten, 0, 99, "deal", 1, 0, 50, 50);
        due.range(States::unwritten, 0, 99, "deal", 2, 0, 50, 50);
        int[][] worths = {{0, 99}, {99, 0}, {1, 98}, {50, 50}};
        for (int[] w : worths) {
            NamesOnLetters x = States.unwritten();
            due.call(x, 4, "deal", 3, w[0], w[1]);
            int lows = 0;
            int highs = 0;
            for (int i = 0; i < 4; i++) {
                lows += x.of(i, 2) == w[0] ? 1 : 0;
                highs += x.of(i, 2) == w[1] ? 1 : 0;
                due.call(x, 3, "of", i, 0);
                due.call(x, 0, "of", i, 3);
                due.is("a street", x.of(i, 4) >= 0 && x.of(i, 4) < 4, true);
                due.is("a day", x.of(i, 5) >= 0 && x.of(i, 5) < 400, true);
            }
            due.is("low ones", lows, w[0] == w[1] ? 4 : 2);
            due.is("high ones", highs, w[0] == w[1] ? 4 : 2);
        }
    }

    private static NamesOnLetters dealtBeside(int letters) {
        NamesOnLetters x = States.unwritten();
        for (int i = 0; i < letters; i++) {
            x.letter(2, 0, 50, 0, 0);
        }
        return x;
    }

    private static void dealToAHouseThatHasNone() {
        due.says("5: Four LETTERS more to a HOUSE that has none");
        due.call(dealtBeside(0), 4, "deal", 2, 1, 1);
        for (int n = 1; n <= 4; n++) {
            int letters = n;
            due.nothing(() -> dealtBeside(letters), -1, "deal", 2, 1, 1);
            due.call(dealtBeside(n), n + 4, "deal", 1, 1, 1);
        }
        NamesOnLetters x = dealtBeside(0);
        x.deal(1, 1, 1);
        due.refused(x, "deal", 1, 1, 1);
        due.refused(x, "letter", 1, 0, 0, 0, 0);
        due.call(x, 8, "deal", 2, 1, 1);
    }

    private static NamesOnLetters peoples(String peoples) {
        NamesOnLetters x = new NamesOnLetters();
        Due.names(x, peoples);
        x.house(0, 0, 0);
        return x;
    }

    private static void fewerThanTwoNames() {
        due.says("5: Refused: fewer than two NAMES of a PEOPLE");
        for (String names : new String[] {"", "0", "1", "01", "001", "011", "000", "111", "00001", "11110", "0000"}) {
            due.nothing(() -> peoples(names), -1, "deal", 0, 1, 1);
        }
        for (String names : new String[] {"0011", "1100", "0101", "00011", "00111"}) {
            due.call(peoples(names), 4, "deal", 0, 1, 1);
        }
    }

    private static void dealUpToNinetySix() {
        due.says("5: Refused: above 96");
        NamesOnLetters x = withHouses(24);
        Due.names(x, "01");
        for (int h = 23; h >= 0; h--) {
            due.call(x, 4 * (24 - h), "deal", h, 0, 99);
        }
        due.call(x, 96, "count", 2);
        for (int h = 0; h < 24; h++) {
            due.refused(x, "deal", h, 0, 99);
        }
        due.call(x, 96, "count", 2);
        // the first 92 without a deal: the last four fit
        NamesOnLetters y = almostFull(4);
        Due.names(y, "01");
        due.call(y, 96, "deal", 23, 0, 99);
    }

    private static void dealtByPeople() {
        due.says("5: its NAME: of NAMES of that PEOPLE that are on none of its HOUSE's LETTERS, in order");
        // of two names each, the second one's draw is of one: it is drawn all the same
        for (int seed = -9; seed < 9; seed++) {
            NamesOnLetters x = peoples("1001");
            x.house(0, 0, 0);
            x.letter(1, 1, 0, 0, 0);
            x.seed(seed);
            due.call(x, 5, "deal", 0, 1, 2);
            int seen = 0;
            for (int i = 1; i < 5; i++) {
                seen |= 1 << x.of(i, 1);
            }
            due.is("names of the four", seen, 15);
            int r = seed;
            for (int k = 0; k < 13; k++) {
                r = r * 1103515245 + 12345;
            }
            due.call(x, r, "seed", 0);
        }
        due.nothing(() -> peoples("001"), -1, "deal", 0, 1, 2);
    }

    private static void dealtByDraws() {
        due.says("5: by DRAWS: of 6; then for each of the four, in order: its NAME; of 4: its STREET; of 400: its DAY");
        for (String names : new String[] {"0011", "01010111", "111100001111", "010000000000"}) {
            for (int seed = 0; seed < 60; seed++) {
                NamesOnLetters x = new NamesOnLetters();
                Model model = new Model();
                for (char c : names.toCharArray()) {
                    x.name(c - '0', 0, 0);
                    model.call("name", c - '0', 0, 0);
                }
                for (int house = 0; house < 2; house++) {
                    x.house(0, 0, 0);
                    model.call("house", 0, 0, 0);
                }
                x.seed(seed * 715827883);
                model.call("seed", seed * 715827883);
                for (int house = 1; house >= 0; house--) {
                    due.call(x, model.call("deal", house, 20, 80), "deal", house, 20, 80);
                }
                for (int i = 0; i < model.letters.size(); i++) {
                    for (int what = 0; what < 9; what++) {
                        due.call(x, model.letters.get(i)[what], "of", i, what);
                    }
                }
                due.call(x, model.r, "seed", 0);
            }
        }
    }

    /** The R from which the third draw of a deal makes the first STREET, or the fourth one the first DAY. */
    private static int before(int draws, int next) {
        int r = next;
        for (int k = 0; k < draws; k++) {
            r = TermsEdgesTest.before(r);
        }
        return r;
    }

    private static void dealtAtTheEnds() {
        due.says("5: of 4: its STREET; of 400: its DAY; of 6, of how many they are");
        int[] tops = {0, 1, 2, 3, 4, 5, 6, 7, 398, 399, 400, 401, 32767, 32768, 65535};
        for (int top : tops) {
            NamesOnLetters street = peoples("0011");
            street.seed(before(3, top << 16));
            due.call(street, 4, "deal", 0, 0, 0);
            due.call(street, top % 4, "of", 0, 4);
            NamesOnLetters day = peoples("0011");
            day.seed(before(4, top << 16 | 65535));
            due.call(day, 4, "deal", 0, 0, 0);
            due.call(day, top % 400, "of", 0, 5);
            NamesOnLetters name = peoples("000000111111");
            name.seed(before(2, top << 16));
            due.call(name, 4, "deal", 0, 0, 0);
            due.is("the first name by " + top, name.of(0, 1) % 6, top % 6);
            // the second name of the same people is drawn of the five that are left, in order
            NamesOnLetters next = peoples("000000111111");
            next.seed(before(5, top << 16));
            due.call(next, 4, "deal", 0, 0, 0);
            boolean same = next.of(0, 1) / 6 == next.of(1, 1) / 6;
            int at = same ? top % 5 : top % 6;
            int skipped = same && next.of(0, 1) % 6 <= at ? 1 : 0;
            due.is("the second name by " + top, next.of(1, 1) % 6, at + skipped);
        }
        due.says("5: WORTH: low for the first of its PEOPLE, high for the second one");
        String[] worths = {"lhlh", "llhh", "llhh", "llhh", "llhh", "lhlh"};
        for (int way = 0; way < 6; way++) {
            NamesOnLetters x = peoples("0011");
            x.seed(before(1, way << 16));
            due.call(x, 4, "deal", 0, 11, 22);
            for (int i = 0; i < 4; i++) {
                due.call(x, worths[way].charAt(i) == 'l' ? 11 : 22, "of", i, 2);
            }
        }
    }

    private static void ofArguments() {
        due.says("6: NoSuchElementException: none such, another what");
        due.range(States::rich, 0, 8, "of", 0, 0, 0);
        due.range(States::rich, 0, 8, "of", 1, 8, 0);
        due.nothing(States::rich, Model.THROWS, "of", 9, 9);
        due.nothing(States::rich, Model.THROWS, "of", 95, 0);
        due.nothing(States::rich, Model.THROWS, "of", 96, 0);
    }

    private static void ofReadAndRung() {
        due.says("6: 6: 1 if it is READ, 7: 1 if it is RUNG, 8: AFTER (0 at first)");
        NamesOnLetters x = States.rich();
        int[][] want = {{1, 1, 0}, {1, 0, 0}, {0, 0, 0}, {1, 1, 2}, {1, 0, 0}, {1, 1, 1}, {0, 0, 0}};
        for (int i = 0; i < want.length; i++) {
            for (int k = 0; k < 3; k++) {
                due.call(x, want[i][k], "of", i, 6 + k);
            }
        }
    }
}
