/** The edges of promises 40 to 43: asked, pairs, ask, nearly. */
public final class MachineEdgesTest {
    private static final Due due = new Due("edges of the machine");

    public static void main(String[] args) {
        askedArguments();
        askedOfOne();
        forty();
        pairsAgainst();
        pairsOfNone();
        houseIsNothingToIt();
        askNone();
        askFewest();
        askFirst();
        nearlyArguments();
        nearlyAtMost();
        due.end();
    }

    /** Letters of these worths and errors, four to a house, none of them read. */
    private static NamesOnLetters letters(int... worthsAndErrors) {
        NamesOnLetters x = new NamesOnLetters();
        Due.names(x, "0");
        for (int k = 0; k < worthsAndErrors.length; k += 2) {
            if (k % 8 == 0) {
                x.house(0, 0, 0);
            }
            x.letter(k / 8, 0, worthsAndErrors[k], 4 * worthsAndErrors[k + 1], 0);
        }
        return x;
    }

    private static NamesOnLetters laws(NamesOnLetters x, String... laws) {
        for (int law = 0; law < laws.length; law++) {
            if (!laws[law].isEmpty()) {
                due.is("law " + laws[law], Due.law(x, law, laws[law]), 0);
            }
        }
        return x;
    }

    private static void askedArguments() {
        due.says("40: the first (1), the second (2), neither (0). Refused: others");
        due.range(States::rich, 0, 8, "asked", 0, 0, 6, 1);
        due.range(States::rich, 0, 8, "asked", 1, 6, 0, 1);
        due.range(States::rich, 0, 2, "asked", 2, 0, 1, 1);
        due.nothing(States::rich, -1, "asked", 9, 0, 1);
        due.nothing(States::rich, -1, "asked", 0, 95, 1);
    }

    private static void askedOfOne() {
        due.says("40: Refused: a and b are one");
        for (int i : new int[] {0, 1, 8, 9, -1, 96}) {
            for (int took = 0; took < 3; took++) {
                due.nothing(States::rich, -1, "asked", i, i, took);
            }
        }
        NamesOnLetters x = letters(5, 5);
        due.call(x, -1, "asked", 0, 0, 1);
        due.call(x, -1, "asked", 0, 1, 1);
        x.letter(0, 0, 0, 0, 0);
        due.call(x, 1, "asked", 0, 1, 1);
        due.call(x, 2, "asked", 1, 0, 1);
        due.call(x, 3, "asked", 0, 1, 1);
    }

    private static NamesOnLetters askedTimes(int n) {
        NamesOnLetters x = laws(letters(10, 1, 20, 1), "w", "e");
        for (int k = 1; k <= n; k++) {
            due.call(x, k, "asked", 1, 0, k == n ? 2 : 1);
        }
        return x;
    }

    private static void forty() {
        due.says("40: how many askings are told. Refused: 40");
        due.call(askedTimes(38), 39, "asked", 0, 1, 1);
        due.call(askedTimes(39), 40, "asked", 0, 1, 1);
        for (int took = 0; took < 3; took++) {
            due.nothing(() -> askedTimes(40), -1, "asked", 0, 1, took);
            due.nothing(() -> askedTimes(40), -1, "asked", 1, 0, took);
        }
        // the last one counts: it alone goes against the worth
        NamesOnLetters x = askedTimes(40);
        due.call(x, 2, "pairs");
        due.row(x, 1, 0, -1, -1, -1, -1);
        due.call(x, 40, "count", 7);
        // with what was kept the askings are gone, and told anew
        x.keep(0);
        x.again(0);
        due.call(x, 1, "asked", 0, 1, 1);
    }

    private static void pairsAgainst() {
        due.says("41: One does, if the one that was taken has the lesser value by it, or neither was taken and both are unlike");
        int[][] worths = {{10, 20}, {20, 20}, {20, 10}, {19, 20}, {21, 20}};
        for (int[] w : worths) {
            for (int took = 0; took < 3; took++) {
                boolean against = took == 1 ? w[0] < w[1] : took == 2 ? w[1] < w[0] : w[0] != w[1];
                NamesOnLetters x = laws(letters(w[0], 1, w[1], 1), "", "w", "", "0", "", "-w");
                x.asked(0, 1, took);
                boolean opposite = took == 1 ? w[0] > w[1] : took == 2 ? w[1] > w[0] : w[0] != w[1];
                due.call(x, (against ? 0 : 2) + 8 + (opposite ? 0 : 32), "pairs");
                due.row(x, -1, against ? 1 : 0, -1, 0, -1, opposite ? 1 : 0);
            }
        }
        // as ints: the least of them is less than the greatest, by however much
        NamesOnLetters x = laws(letters(1, 0, 0, 0), "512*512*512*16-w");
        x.asked(0, 1, 2);
        due.call(x, 0, "pairs");
        NamesOnLetters y = laws(letters(1, 0, 0, 0), "512*512*512*16-w");
        y.asked(0, 1, 1);
        due.call(y, 1, "pairs");
    }

    private static void pairsOfNone() {
        due.says("41: LAWS (bits, of those told); the ROW: how many askings go against each LAW (NONE for one that was not told)");
        NamesOnLetters none = new NamesOnLetters();
        due.call(none, 0, "pairs");
        due.row(none, -1, -1, -1, -1, -1, -1);
        for (int law = 0; law < 6; law++) {
            NamesOnLetters x = letters(1, 1, 2, 2);
            x.asked(0, 1, 1);
            due.call(x, 0, "pairs");
            due.is("law", Due.law(x, law, "1"), 0);
            due.call(x, 1 << law, "pairs");
            long[] row = {-1, -1, -1, -1, -1, -1};
            row[law] = 0;
            due.row(x, row);
            due.is("law", Due.law(x, law, "w"), 0);
            due.call(x, 0, "pairs");
            row[law] = 1;
            due.row(x, row);
        }
        NamesOnLetters x = laws(letters(), "w", "e", "s", "d", "p", "x");
        due.call(x, 63, "pairs");
        due.row(x, 0, 0, 0, 0, 0, 0);
    }

    private static void houseIsNothingToIt() {
        due.says("41: (n, k, m are 0 for that)");
        String[] laws = {"n", "k", "m", "n+k+m", "n=0", "w+100*(k+n+m)"};
        NamesOnLetters x = laws(letters(10, 0, 10, 0, 10, 0, 10, 0, 10, 0), laws);
        x.ring(0, true);
        x.ring(1, false);
        // letter 4 is to another house, that has read nothing: all are alike
        x.asked(0, 4, 0);
        x.asked(4, 0, 0);
        x.asked(4, 2, 0);
        due.call(x, 63, "pairs");
        due.row(x, 0, 0, 0, 0, 0, 0);
        due.call(x, 6, "ask");
        due.row(x, 0, 1);
        due.call(x, 63, "nearly", 0);
        due.says("11: while the LAW's value for them is that of the HOUSE now");
        due.call(x, 1, "value", 0, 0);
        due.call(x, 2, "value", 1, 0);
        due.call(x, 0, "value", 1, 4);
    }

    private static void askNone() {
        due.says("42: -2: fewer than two LAWS could be, or fewer than two LETTERS");
        String[][] laws = {{}, {"w"}, {"", "", "", "", "", "e"}};
        for (String[] some : laws) {
            due.nothing(() -> laws(letters(1, 1, 2, 2, 3, 3), some), -2, "ask");
        }
        String[][] two = {{"w", "e"}, {"w", "", "", "", "", "e"}, {"w", "w", "w", "w", "w", "w"}};
        for (String[] some : two) {
            due.nothing(() -> laws(letters(), some), -2, "ask");
            due.nothing(() -> laws(letters(1, 1), some), -2, "ask");
            due.call(laws(letters(1, 1, 1, 1), some), Integer.bitCount(laws(letters(), some).count(5)), "ask");
        }
        // askings leave three laws, two, one, none
        NamesOnLetters x = laws(letters(1, 4, 2, 2, 1, 3, 5, 2, 1, 1, 1, 2), "w", "e", "w+e");
        int[][] askings = {{5, 4}, {0, 1}, {2, 3}, {4, 5}};
        int[] bits = {7, 6, 2, 0};
        for (int k = 0; k < 4; k++) {
            x.asked(askings[k][0], askings[k][1], 1);
            due.call(x, k < 2 ? 1 + (1 - k) : -2, "ask");
            due.call(x, bits[k], "pairs");
        }
        // a law told since could be
        Due.law(x, 5, "7");
        due.call(x, -2, "ask");
        Due.law(x, 4, "8");
        due.call(x, 2, "ask");
        due.row(x, 0, 1);
    }

    private static void askFewest() {
        due.says("42: that pair with which the most that one answer leaves are the fewest: how many these are");
        // all laws are alike for it: every answer of neither leaves all
        due.call(laws(letters(1, 1, 2, 2), "w", "e", "w*e"), 3, "ask");
        due.call(laws(letters(1, 1, 1, 1), "w", "e", "w*e"), 3, "ask");
        due.call(laws(letters(1, 2, 2, 1), "w", "e", "w+e"), 2, "ask");
        due.call(laws(letters(1, 2, 2, 1), "w", "e"), 1, "ask");
        due.call(laws(letters(1, 2, 2, 1), "w", "e", "w", "e"), 2, "ask");
        due.call(laws(letters(1, 2, 2, 1), "w", "e", "w", "e", "w", "e"), 3, "ask");
        due.call(laws(letters(1, 2, 2, 1), "w", "e", "1", "e", "w", "2"), 4, "ask");
        due.call(laws(letters(1, 2, 2, 1), "w", "0", "1", "2", "3", "4"), 6, "ask");
        // laws that the askings go against are not counted
        NamesOnLetters x = laws(letters(1, 2, 2, 1, 3, 3), "w", "e", "w", "e", "w", "e");
        x.asked(0, 1, 2);
        due.call(x, 3, "ask");
        NamesOnLetters y = laws(letters(1, 2, 2, 1, 3, 3, 3, 4), "w", "e", "w+e", "w-e", "1", "");
        // against letter 3 of w 3 e 4: the first of 2 and 3 is alike by w, less by e and by w+e, more by w-e
        y.asked(2, 3, 0);
        due.call(y, 17, "pairs");
        due.call(y, 2, "ask");
        due.row(y, 0, 1);
    }

    private static void askFirst() {
        due.says("42: a below b; of equal ones the first a, then b");
        // only pairs with letter 2 part the laws: 0 2 is the first
        NamesOnLetters x = laws(letters(5, 5, 5, 5, 6, 4, 5, 5), "w", "e");
        due.call(x, 1, "ask");
        due.row(x, 0, 2);
        // letters 2 and 3 alone
        NamesOnLetters y = laws(letters(1, 1, 2, 2, 3, 4, 4, 3), "w", "e");
        due.call(y, 1, "ask");
        due.row(y, 2, 3);
        // 1 2 and 0 3 both part them: 0 3 is the first
        NamesOnLetters z = laws(letters(1, 4, 2, 6, 3, 5, 4, 1), "w", "e");
        due.call(z, 1, "ask");
        due.row(z, 0, 3);
        // all are alike: 0 1
        NamesOnLetters w = laws(letters(1, 1, 1, 1, 1, 1), "w", "e");
        due.call(w, 2, "ask");
        due.row(w, 0, 1);
        // the last two of 96
        int[] all = new int[192];
        for (int i = 0; i < 96; i++) {
            all[2 * i] = i;
            all[2 * i + 1] = 0;
        }
        all[2 * 94 + 1] = 9;
        all[2 * 95 + 1] = 8;
        NamesOnLetters v = laws(letters(all), "w", "w*(d+9)+e*500");
        due.call(v, 1, "ask");
        due.row(v, 94, 95);
    }

    private static void nearlyArguments() {
        due.says("43: wrong (0 .. 40). NONE: others");
        due.range(States::rich, 0, 40, "nearly", 0, 0);
        due.nothing(States::rich, 5, "nearly", 40);
    }

    private static void nearlyAtMost() {
        due.says("43: LAWS (bits, of those told) against which at most wrong askings go");
        for (int n : new int[] {0, 1, 2, 39, 40}) {
            NamesOnLetters x = laws(letters(10, 1, 20, 1), "w", "", "-w", "7");
            for (int k = 0; k < n; k++) {
                x.asked(1, 0, 2);
            }
            for (int wrong = 0; wrong <= 40; wrong++) {
                due.call(x, (n <= wrong ? 1 : 0) + 4 + 8, "nearly", wrong);
            }
        }
        for (int wrong = 0; wrong <= 40; wrong += 40) {
            due.call(new NamesOnLetters(), 0, "nearly", wrong);
        }
    }
}
