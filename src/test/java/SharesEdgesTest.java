/** The edges of promises 17 to 20: share, aside, odds, weighs. */
public final class SharesEdgesTest {
    private static final Due due = new Due("edges of shares");

    public static void main(String[] args) {
        filterNotTold();
        shareWithoutAny();
        asideWithoutSome();
        asideOfOneEach();
        oddsArguments();
        oddsOfNone();
        oddsNoMoreNoFewer();
        oddsByHouses();
        oddsAtTheEnd();
        weighsNone();
        weighsAside();
        weighsFirst();
        due.end();
    }

    /** A house for each text: 0 and 1 are read letters of a people, R and S such that are rung, . one not read. */
    static NamesOnLetters houses(String... texts) {
        NamesOnLetters x = new NamesOnLetters();
        Due.names(x, "01");
        for (int h = 0; h < texts.length; h++) {
            x.house(h % 4, h / 4 % 4, 0);
            for (char c : texts[h].toCharArray()) {
                if (c == '.') {
                    x.letter(h, 0, 50, 0, 0);
                } else {
                    Due.read(x, h, c == '1' || c == 'S' ? 1 : 0, c == 'R' || c == 'S');
                }
            }
        }
        return x;
    }

    private static void filterNotTold() {
        due.says("17, 18, 19: NONE: a FILTER that was not told (NONE: all)");
        for (int filter : new int[] {0, 3, 4, 5, 6, 7, -2, Integer.MIN_VALUE, Integer.MAX_VALUE}) {
            due.nothing(States::rich, -1, "share", filter);
            due.nothing(States::rich, -1, "aside", filter);
            for (int what = 0; what < 3; what++) {
                due.nothing(States::rich, -1, "odds", filter, what);
            }
        }
        for (int filter = 0; filter < 6; filter++) {
            NamesOnLetters x = houses("R1", "0S");
            due.call(x, -1, "share", filter);
            due.is("filter " + filter, Due.filter(x, filter, "1"), 0);
            due.call(x, 4, "share", filter);
            due.call(x, 0, "aside", filter);
            due.call(x, 0, "odds", filter, 0);
            // a law under that number is no filter
            NamesOnLetters y = houses("R1", "0S");
            due.is("law " + filter, Due.law(y, filter, "1"), 0);
            due.call(y, -1, "share", filter);
        }
        due.call(States.rich(), 5, "share", -1);
        due.call(States.rich(), 2, "share", 1);
        due.call(States.rich(), 3, "share", 2);
    }

    private static void shareWithoutAny() {
        due.says("17: how many; the ROW: their SHARE as a fraction (none without any)");
        NamesOnLetters x = houses("R01");
        Due.filter(x, 0, "w>50");
        Due.filter(x, 1, "w>49");
        Due.filter(x, 2, "r");
        Due.filter(x, 3, "!r&p");
        x.share(-1);
        due.row(x, 1, 3);
        due.call(x, 0, "share", 0);
        due.row(x);
        due.call(x, 3, "share", 1);
        due.row(x, 1, 3);
        due.call(x, 1, "share", 2);
        due.row(x, 1, 1);
        due.call(x, 1, "share", 3);
        due.row(x, 0, 1);
        NamesOnLetters z = houses("RS01");
        due.call(z, 4, "share", -1);
        due.row(z, 1, 2);
        NamesOnLetters y = houses("..");
        y.pairs();
        due.call(y, 0, "share", -1);
        due.row(y);
        y.ring(0, true);
        due.call(y, 1, "share", -1);
        due.row(y, 1, 1);
    }

    private static void asideWithoutSome() {
        due.says("18: -2: some PEOPLE has none");
        for (String house : new String[] {"", ".", "R", "0", "1", "S", "R0.", "S1."}) {
            due.nothing(() -> houses(house), -2, "aside", -1);
            due.nothing(() -> {
                NamesOnLetters x = houses(house, "RS");
                x.aside(-1);
                Due.filter(x, 1, "t=0");
                return x;
            }, -2, "aside", 1);
        }
    }

    private static void asideOfOneEach() {
        due.says("18: (both have some): SHARE of PEOPLE 0 less SHARE of PEOPLE 1; the ROW");
        String[] texts = {"01", "R1", "0S", "RS", "R.1", "RR0S"};
        long[][] rows = {{0, 1, 1, 0, 1, 0}, {1, 1, 1, 1, 1, 0}, {-1, 1, 1, 0, 1, 1}, {0, 1, 1, 1, 1, 1},
            {1, 1, 1, 1, 1, 0}, {-1, 3, 3, 2, 1, 1}};
        for (int k = 0; k < texts.length; k++) {
            NamesOnLetters x = houses(texts[k]);
            due.call(x, 0, "aside", -1);
            due.row(x, rows[k]);
        }
    }

    private static void oddsArguments() {
        due.says("19: what 0, 1, 2. NONE: others");
        due.range(States::rich, 0, 2, "odds", 1, -1, 0);
        due.range(States::rich, 0, 2, "odds", 1, 1, 0);
        due.nothing(States::rich, -1, "odds", 0, 3);
        due.nothing(States::rich, -1, "odds", 6, -1);
    }

    private static void odds(NamesOnLetters x, int filter, long... six) {
        for (int what = 0; what < 3; what++) {
            due.call(x, 0, "odds", filter, what);
            due.row(x, six[2 * what], six[2 * what + 1]);
        }
    }

    private static void oddsOfNone() {
        due.says("19: of all ways the share: without LETTERS, of one PEOPLE, without rings there is one way");
        String[] texts = {"", ".", "0", "R", "1", "S", "RRRR", "SSSS", "SS11", "RR00", "0011", "RRSS"};
        for (String text : texts) {
            odds(houses(text), -1, 1, 1, 1, 1, 1, 1);
        }
        NamesOnLetters x = houses("RR11");
        Due.filter(x, 0, "0");
        Due.filter(x, 1, "r");
        Due.filter(x, 2, "p");
        odds(x, 0, 1, 1, 1, 1, 1, 1);
        odds(x, 1, 1, 1, 1, 1, 1, 1);
        odds(x, 2, 1, 1, 1, 1, 1, 1);
    }

    private static void oddsNoMoreNoFewer() {
        due.says("19: no more RUNG ones than are are of PEOPLE 1 (what 0), no fewer (1), just as many (2)");
        odds(houses("R1"), -1, 1, 2, 1, 1, 1, 2);
        odds(houses("0S"), -1, 1, 1, 1, 2, 1, 2);
        odds(houses("RR11"), -1, 1, 6, 1, 1, 1, 6);
        odds(houses("RS01"), -1, 5, 6, 5, 6, 2, 3);
        odds(houses("00SS"), -1, 1, 1, 1, 6, 1, 6);
        // three rung: one or two of them are of PEOPLE 1, in three ways each
        odds(houses("RRS1"), -1, 1, 2, 1, 1, 1, 2);
        odds(houses("R0SS"), -1, 1, 1, 1, 2, 1, 2);
        // three of four are of PEOPLE 1
        odds(houses("RS11"), -1, 1, 2, 1, 1, 1, 2);
        odds(houses("0SS1"), -1, 1, 1, 1, 2, 1, 2);
        odds(houses("0S11"), -1, 1, 1, 3, 4, 3, 4);
    }

    private static void oddsByHouses() {
        due.says("19: in each HOUSE which of its LETTERS that PASS are of PEOPLE 1 could be any, as many as they are");
        // were they mixed, R 0 in one house and 1 S in the other would be six ways, not one
        odds(houses("R0", "1S"), -1, 1, 1, 1, 1, 1, 1);
        odds(houses("R1", "R1"), -1, 1, 4, 1, 1, 1, 4);
        odds(houses("R1", "0S"), -1, 3, 4, 3, 4, 1, 2);
        odds(houses("0S", "0S", "0S"), -1, 1, 1, 1, 8, 1, 8);
        NamesOnLetters x = houses("R1", "R1", "0S");
        Due.filter(x, 0, "t<2");
        Due.filter(x, 1, "t>0");
        odds(x, 0, 1, 4, 1, 1, 1, 4);
        odds(x, 1, 3, 4, 3, 4, 1, 2);
        odds(x, -1, 1, 2, 7, 8, 3, 8);
        due.says("19: LETTERS that PASS a FILTER");
        NamesOnLetters y = houses("R1", "..");
        y.letter(0, 0, 60, 0, 0);
        y.ring(4, true);
        Due.filter(y, 0, "w=50");
        odds(y, 0, 1, 2, 1, 1, 1, 2);
        odds(y, -1, 1, 3, 1, 1, 1, 3);
    }

    private static String[] times(String text, int n) {
        String[] all = new String[n];
        java.util.Arrays.fill(all, text);
        return all;
    }

    private static void oddsAtTheEnd() {
        due.says("19: exactly, of 6 to the 24th ways at most");
        odds(houses(times("RR11", 24)), -1, 1, 4738381338321616896L, 1, 1, 1, 4738381338321616896L);
        odds(houses(times("00SS", 24)), -1, 1, 1, 1, 4738381338321616896L, 1, 4738381338321616896L);
        odds(houses(times("RR11", 23)), -1, 1, 789730223053602816L, 1, 1, 1, 789730223053602816L);
        String[] one = times("RR11", 24);
        one[23] = "RS01";
        // one ring of PEOPLE 1: 4 ways in each of 24 houses; and the one without any
        odds(houses(one), -1, 97, 4738381338321616896L, 4738381338321616895L, 4738381338321616896L,
                1, 49358138940850176L);
        NamesOnLetters all = houses(times("SSSS", 24));
        odds(all, -1, 1, 1, 1, 1, 1, 1);
        Due.filter(all, 0, "0");
        odds(all, 0, 1, 1, 1, 1, 1, 1);
        Due.filter(all, 0, "t=3");
        odds(all, 0, 1, 1, 1, 1, 1, 1);
    }

    private static void weighsNone() {
        due.says("20: -2: none, or some PEOPLE has none; NONE never");
        String[][] none = {{}, {""}, {"."}, {"R"}, {"1", "S"}, {"R0", "R"}, {"R1"}, {"R1", "."}, {"R1", "", ".."},
            {"R", "1"}, {"R", "S"}, {".", "RS01"}};
        for (String[] texts : none) {
            due.nothing(() -> houses(texts), -2, "weighs");
            due.nothing(() -> {
                NamesOnLetters x = houses(texts);
                x.pairs();
                return x;
            }, -2, "weighs");
        }
        due.call(houses("R1", "R1"), 0, "weighs");
        due.call(houses("R1", "R"), 1, "weighs");
        due.call(houses("R", "R1"), 0, "weighs");
        due.call(houses("R1", "1"), 1, "weighs");
    }

    private static void weighsAside() {
        due.says("20: HOUSES without READ LETTERS, and those without which some PEOPLE has none, aside");
        // without house 0 nothing would be left of PEOPLE 1
        NamesOnLetters x = houses("R1", "0", "R");
        due.call(x, 1, "weighs");
        due.row(x, 1, 1);
        // 2/3 of all; it becomes 1 without house 1, and 1/2 without house 2
        NamesOnLetters y = houses("..", "0", "R", "R1", "");
        due.call(y, 1, "weighs");
        due.row(y, 1, 1);
        NamesOnLetters z = houses(".", "R1", "R1", ".");
        due.call(z, 1, "weighs");
        due.row(z, 1, 1);
    }

    private static void weighsFirst() {
        due.says("20: would change ASIDE of all most, in size; of equal ones the first");
        // -1/2 of two halves each: without house 0 it is -1, without house 1 it is 0
        NamesOnLetters x = houses("R", "0", "1", "S");
        due.call(x, 0, "weighs");
        due.row(x, -1, 2);
        NamesOnLetters y = houses("0", "R", "S", "1");
        due.call(y, 0, "weighs");
        due.row(y, 1, 2);
        // as much up as down: the first, whichever it is
        NamesOnLetters z = houses("0S", "R1", "01");
        due.call(z, 0, "weighs");
        due.row(z, 1, 2);
        NamesOnLetters w = houses("01", "R1", "0S");
        due.call(w, 1, "weighs");
        due.row(w, -1, 2);
        // a later one that changes it more
        NamesOnLetters v = houses("01", "01", "RR11");
        due.call(v, 2, "weighs");
        due.row(v, 0, 1);
        // 3/5 - 3/7 of all; it becomes 0, -4/15, 11/20, 7/20 without each
        NamesOnLetters t = houses("R1", "RR11", "0SS", "01S");
        due.call(t, 1, "weighs");
        due.row(t, -4, 15);
        // -1/4 of all; it becomes -2/3, 0, -1/3, 1/4 without each
        NamesOnLetters s = houses("R1", "00", "01", "SS");
        due.call(s, 3, "weighs");
        due.row(s, 1, 4);
        due.says("20: the ROW: ASIDE without them as a fraction");
        NamesOnLetters u = houses("R1", "R1", "00");
        u.pairs();
        due.call(u, 2, "weighs");
        due.row(u, 1, 1);
    }
}
