/** The edges of promises 26 to 33: table, kind, parts, likely, fit, named, sure, most. */
public final class KindsEdgesTest {
    private static final Due due = new Due("edges of kinds");

    public static void main(String[] args) {
        tableArguments();
        tableOfReadHouses();
        kindArguments();
        kindTakesEffect();
        partsArguments();
        partsNeverNone();
        likelyArguments();
        likelyOfNone();
        likelyCutOnce();
        fitOfNone();
        fitNever();
        fitLeastRow();
        fitOfAll();
        namedArguments();
        namedByLine();
        namedThatCanBe();
        sureArguments();
        sureLines();
        sureAtMost();
        mostHalf();
        due.end();
    }

    private static NamesOnLetters houses(String... texts) {
        return SharesEdgesTest.houses(texts);
    }

    private static void tableArguments() {
        due.says("26: (0 .. 4 each). NONE: others");
        due.range(States::rich, 0, 4, "table", 0, 0, 0);
        due.range(States::rich, 0, 4, "table", 1, 0, 0);
        due.nothing(States::rich, 2, "table", 1, 0);
    }

    private static void tableOfReadHouses() {
        due.says("26: how many have a RUNG ones of PEOPLE 0 and b of PEOPLE 1 (HOUSES without READ LETTERS not)");
        for (int a = 0; a <= 4; a++) {
            for (int b = 0; a + b <= 4; b++) {
                String text = "RRRR".substring(0, a) + "SSSS".substring(0, b) + (a + b < 4 ? "0" : "");
                NamesOnLetters x = houses("", text, ".", "....", text);
                for (int c = 0; c <= 4; c++) {
                    for (int d = 0; d <= 4; d++) {
                        due.call(x, a == c && b == d ? 2 : 0, "table", c, d);
                    }
                }
            }
        }
        due.call(new NamesOnLetters(), 0, "table", 0, 0);
        due.call(houses("", ".", "...."), 0, "table", 0, 0);
        due.call(houses("0", "1.", "..1."), 3, "table", 0, 0);
    }

    private static void kindArguments() {
        due.says("27: KINDS 0 .. 3, each RINGS so many (0 .. 100). Refused: others");
        due.range(States::rich, 0, 3, "kind", 0, 0, 50, 50);
        due.range(States::rich, 0, 100, "kind", 1, 0, 50, 50);
        due.range(States::rich, 0, 100, "kind", 2, 0, 50, 50);
    }

    private static void kindTakesEffect() {
        due.says("27: A KIND RINGS so many in a hundred of PEOPLE 0, of PEOPLE 1");
        for (int kind = 0; kind < 4; kind++) {
            for (int v : new int[] {0, 1, 99, 100}) {
                NamesOnLetters x = houses("R", "S", "0", "1");
                for (int k = 0; k < 4; k++) {
                    due.call(x, 1, "kind", k, 50, 50);
                }
                due.call(x, 1, "kind", kind, v, 100 - v);
                int[] zero = {v, 100 - v, 100 - v, v};
                for (int h = 0; h < 4; h++) {
                    due.call(x, zero[h] * 1000000L / (150 + zero[h]), "likely", h, kind);
                }
            }
        }
    }

    private static void partsArguments() {
        due.says("28: PARTS of a KIND become v: what they were (0 .. 99). Refused: others");
        due.range(States::rich, 0, 3, "parts", 0, 0, 5);
        due.range(States::rich, 0, 99, "parts", 1, 0, 5);
        for (int kind = 0; kind < 4; kind++) {
            NamesOnLetters x = new NamesOnLetters();
            int was = 1;
            for (int v : new int[] {0, 99, 98, 1, 0, 0, 99}) {
                due.call(x, was, "parts", kind, v);
                was = v;
            }
        }
    }

    private static NamesOnLetters onlyPart(int kind, int v) {
        NamesOnLetters x = houses("R1", "");
        x.says();
        x.parts(kind, v);
        for (int k = 0; k < 4; k++) {
            if (k != kind) {
                due.call(x, 1, "parts", k, 0);
            }
        }
        return x;
    }

    private static void partsNeverNone() {
        due.says("28: Refused: the sum would be 0");
        for (int kind = 0; kind < 4; kind++) {
            for (int v : new int[] {1, 99}) {
                int k = kind;
                int part = v;
                due.nothing(() -> onlyPart(k, part), -1, "parts", kind, 0);
                due.call(onlyPart(kind, v), v, "parts", kind, 1);
                due.call(onlyPart(kind, v), 0, "parts", (kind + 1) % 4, 0);
                NamesOnLetters x = onlyPart(kind, v);
                due.call(x, 1000000, "likely", 1, kind);
                due.call(x, 0, "likely", 1, (kind + 1) % 4);
                due.call(x, 0, "parts", (kind + 1) % 4, 1);
                due.call(x, v, "parts", kind, 0);
                due.call(x, -1, "parts", (kind + 1) % 4, 0);
                due.call(x, 1000000, "likely", 1, (kind + 1) % 4);
            }
        }
    }

    private static void likelyArguments() {
        due.says("29: NONE: others");
        due.range(States::rich, 0, 3, "likely", 0, 0, 0);
        due.range(States::rich, 0, 3, "likely", 1, 0, 0);
        due.nothing(NamesOnLetters::new, -1, "likely", 0, 0);
        due.nothing(States::rich, -1, "likely", 4, 0);
        due.nothing(States::rich, -1, "likely", 23, 0);
    }

    private static NamesOnLetters never(String... texts) {
        NamesOnLetters x = houses(texts);
        for (int k = 0; k < 4; k++) {
            x.kind(k, 100, 0);
        }
        x.says();
        return x;
    }

    private static void likelyOfNone() {
        due.says("29: -2: it can be of none");
        for (int kind = 0; kind < 4; kind++) {
            for (String text : new String[] {"0", "S", "R0", "1S", "RR1S", "0..."}) {
                due.nothing(() -> never(text), -2, "likely", 0, kind);
            }
            for (String text : new String[] {"", ".", "R", "1", "RR11", "R1.."}) {
                due.call(never(text), 250000, "likely", 0, kind);
            }
        }
        // it could be of a kind that no part is of
        NamesOnLetters x = never("S");
        x.kind(2, 100, 1);
        due.call(x, 1000000, "likely", 0, 2);
        due.call(x, 0, "likely", 0, 0);
        x.parts(2, 0);
        due.call(x, -2, "likely", 0, 2);
        due.call(x, -2, "likely", 0, 0);
        x.parts(2, 1);
        due.call(x, 1000000, "likely", 0, 2);
    }

    private static void likelyCutOnce() {
        due.says("29: in parts of 1000000 (exactly, cut once)");
        NamesOnLetters x = houses("");
        int[] parts = {99, 98, 97, 1};
        for (int k = 0; k < 4; k++) {
            x.parts(k, parts[k]);
        }
        // of 295: 335593.2, 332203.3, 328813.5, 3389.8
        int[] want = {335593, 332203, 328813, 3389};
        for (int k = 0; k < 4; k++) {
            due.call(x, want[k], "likely", 0, k);
        }
        // the largest numbers: 99 parts by 100 to the 4th
        NamesOnLetters y = houses("RRRR", "1111", "RS01");
        for (int k = 0; k < 4; k++) {
            y.kind(k, 100, 0);
            y.parts(k, 99);
        }
        due.call(y, 250000, "likely", 0, 3);
        due.call(y, 250000, "likely", 1, 0);
        y.parts(0, 1);
        due.call(y, 3355, "likely", 0, 0);
        due.call(y, 332214, "likely", 0, 1);
        // one by 99 * 99 * 99 * 99, and one by 1: below one part
        NamesOnLetters z = houses("RRRR");
        for (int k = 0; k < 4; k++) {
            z.kind(k, k == 0 ? 1 : 99, 0);
        }
        due.call(z, 0, "likely", 0, 0);
        due.call(z, 333333, "likely", 0, 1);
    }

    private static void fitOfNone() {
        due.says("30: HOUSES with READ LETTERS; of equal ones the least row. How many HOUSES");
        String[][] none = {{}, {""}, {".", "...."}};
        for (String[] texts : none) {
            NamesOnLetters x = houses(texts);
            due.call(x, 0, "fit");
            due.row(x, 0, 0, 0, 10);
        }
        NamesOnLetters x = houses(".", "R", "", "R...", "0000");
        due.call(x, 3, "fit");
        due.is("tenths", x.row(0) + x.row(1) + x.row(2) + x.row(3), 10);
        due.call(x, 4, "count", 8);
    }

    private static void fitNever() {
        due.says("30: -2: it is 0 by all ways");
        due.nothing(() -> never("0"), -2, "fit");
        due.nothing(() -> never("R", "R", "S"), -2, "fit");
        due.nothing(() -> never("R1", "", "R1S", "."), -2, "fit");
        due.call(never("R", "1", "RR11"), 3, "fit");
        // each house can be of some kind, and no way has both kinds at 0
        NamesOnLetters x = never("R", "0");
        x.kind(0, 0, 0);
        due.call(x, 2, "fit");
        due.row(x, 5, 0, 0, 5);
        due.says("30: by tenths alone, PARTS are nothing to it");
        x.parts(0, 0);
        x.parts(3, 99);
        due.call(x, 2, "fit");
        due.row(x, 5, 0, 0, 5);
    }

    private static void fitLeastRow() {
        due.says("30: of equal ones the least row");
        // all kinds alike: all ways are equal
        NamesOnLetters x = never("R", "1");
        due.call(x, 2, "fit");
        due.row(x, 0, 0, 0, 10);
        // kinds 0 and 1 are as good, then 1 and 2, 2 and 3
        int[][] good = {{1, 1, 0, 0}, {0, 1, 1, 0}, {0, 0, 1, 1}, {1, 0, 0, 1}, {1, 0, 1, 0}, {1, 0, 0, 0}, {0, 1, 0, 1}};
        long[][] rows = {{0, 10, 0, 0}, {0, 0, 10, 0}, {0, 0, 0, 10}, {0, 0, 0, 10}, {0, 0, 10, 0}, {10, 0, 0, 0},
            {0, 0, 0, 10}};
        for (int k = 0; k < good.length; k++) {
            NamesOnLetters y = houses("R", "RR");
            for (int kind = 0; kind < 4; kind++) {
                y.kind(kind, good[k][kind] == 1 ? 60 : 59, 0);
            }
            due.call(y, 2, "fit");
            due.row(y, rows[k]);
        }
        // one house rings by kind 0 alone, in one of a hundred cases; twelve are by other kinds alone: 1 tenth is best
        String[] thirteen = new String[13];
        java.util.Arrays.fill(thirteen, "1");
        thirteen[6] = "R";
        NamesOnLetters rare = houses(thirteen);
        rare.kind(0, 1, 100);
        for (int k = 1; k < 4; k++) {
            rare.kind(k, 0, 0);
        }
        due.call(rare, 13, "fit");
        due.row(rare, 1, 0, 0, 9);
        // three of R by two of 0: t to the third by (10 - t) squared is greatest at 6; two and one: at 6 or 7
        NamesOnLetters y = houses("R", "R", "R", "0", "0");
        y.kind(0, 100, 0);
        y.kind(1, 0, 0);
        y.kind(2, 0, 0);
        due.call(y, 5, "fit");
        due.row(y, 6, 0, 0, 4);
        NamesOnLetters z = houses("R", "R", "0");
        z.kind(3, 100, 0);
        z.kind(1, 0, 0);
        z.kind(2, 0, 0);
        z.kind(0, 0, 0);
        // 7 * 7 * 3 is 147, 6 * 6 * 4 is 144
        due.call(z, 3, "fit");
        due.row(z, 0, 0, 3, 7);
    }

    private static void fitOfAll() {
        due.says("30: Of all ways to have tenths of HOUSES of KINDS 0 .. 3 (ten in all)");
        // each of four houses fits one kind alone: as even as tenths can be, the least row first
        NamesOnLetters x = houses("RS", "R1", "0S", "01");
        int[][] kinds = {{100, 100}, {100, 0}, {0, 100}, {0, 0}};
        for (int k = 0; k < 4; k++) {
            x.kind(k, kinds[k][0], kinds[k][1]);
        }
        due.call(x, 4, "fit");
        due.row(x, 2, 2, 3, 3);
        long[][] rows = {{10, 0, 0, 0}, {0, 10, 0, 0}, {0, 0, 10, 0}, {0, 0, 0, 10}};
        String[] texts = {"RS", "R1", "0S", "01"};
        for (int k = 0; k < 4; k++) {
            NamesOnLetters y = houses(texts[k]);
            for (int kind = 0; kind < 4; kind++) {
                y.kind(kind, kinds[kind][0], kinds[kind][1]);
            }
            due.call(y, 1, "fit");
            due.row(y, rows[k]);
        }
        String[] all = new String[24];
        for (int h = 0; h < 24; h++) {
            all[h] = h == 23 ? "0S" : "RSRS";
        }
        NamesOnLetters y = houses(all);
        for (int kind = 0; kind < 4; kind++) {
            y.kind(kind, kinds[kind][0], kinds[kind][1]);
        }
        due.call(y, 24, "fit");
        due.row(y, 9, 0, 1, 0);
        // one house less of two is seen at 24 of the largest numbers: 99 of a hundred against 100
        java.util.Arrays.fill(all, "RRRR");
        NamesOnLetters z = houses(all);
        z.kind(0, 100, 0);
        z.kind(1, 99, 0);
        z.kind(2, 100, 0);
        z.kind(3, 99, 0);
        due.call(z, 24, "fit");
        due.row(z, 0, 0, 10, 0);
    }

    private static void namedArguments() {
        due.says("31: KINDS told as bits (1 .. 15), line (0 .. 1000000). NONE: others");
        due.range(States::rich, 1, 15, "named", 0, 1, 0);
        due.range(States::rich, 0, 1000000, "named", 1, 1, 0);
    }

    private static void named(NamesOnLetters x, int bits, int line, int n, long... row) {
        due.call(x, n, "named", bits, line);
        due.row(x, row);
    }

    private static void namedByLine() {
        due.says("31: by line at least: how many; the ROW: they as bits, wrongly named, let go");
        NamesOnLetters x = never("R", "1", "", ".");
        named(x, 1, 249999, 2, 3, 1500000, 0);
        named(x, 1, 250000, 2, 3, 1500000, 0);
        named(x, 1, 250001, 0, 0, 0, 500000);
        named(x, 3, 500000, 2, 3, 1000000, 0);
        named(x, 3, 500001, 0, 0, 0, 1000000);
        named(x, 7, 750000, 2, 3, 500000, 0);
        named(x, 14, 750001, 0, 0, 0, 1500000);
        named(x, 15, 999999, 2, 3, 0, 0);
        named(x, 15, 1000000, 2, 3, 0, 0);
        for (int k = 0; k < 4; k++) {
            named(x, 1 << k, 0, 2, 3, 1500000, 0);
            named(x, 1 << k, 1000000, 0, 0, 0, 500000);
        }
        due.says("31: the sum of likely(), each cut by itself");
        NamesOnLetters y = houses("R");
        named(y, 7, 999999, 1, 1, 1, 0);
        named(y, 7, 1000000, 0, 0, 0, 999999);
        named(y, 15, 1000000, 0, 0, 0, 999999);
        named(y, 8, 0, 1, 1, 1000000, 0);
        named(y, 8, 1, 0, 0, 0, 0);
        // the last house's bit
        String[] all = new String[24];
        java.util.Arrays.fill(all, "");
        all[23] = "R";
        all[0] = "0";
        named(houses(all), 7, 700000, 1, 1 << 23, 1, 225806 * 3);
        named(houses(all), 7, 0, 2, (1 << 23) + 1, 1 + 322582, 0);
        java.util.Arrays.fill(all, "R");
        named(houses(all), 8, 0, 24, 16777215, 24000000, 0);
        named(houses(all), 7, 999999, 24, 16777215, 24, 0);
        named(houses(all), 7, 1000000, 0, 0, 0, 24 * 999999);
    }

    private static void namedThatCanBe() {
        due.says("31: (HOUSES with READ LETTERS that can be of some KIND)");
        NamesOnLetters x = never("S", ".", "R", "0", "");
        named(x, 15, 0, 1, 4, 0, 0);
        named(x, 1, 0, 1, 4, 750000, 0);
        named(x, 1, 250001, 0, 0, 0, 250000);
        NamesOnLetters y = never("S", "0");
        named(y, 15, 0, 0, 0, 0, 0);
        NamesOnLetters none = new NamesOnLetters();
        none.pairs();
        named(none, 15, 0, 0, 0, 0, 0);
    }

    private static void sureArguments() {
        due.says("32: wrong (0 .. 24000000). NONE: others");
        due.range(States::rich, 1, 15, "sure", 0, 1, 1000000);
        due.range(States::rich, 0, 24000000, "sure", 1, 1, 0);
        due.nothing(States::rich, 0, "sure", 8, 3000000);
        due.nothing(States::rich, 0, "sure", 1, 24000000);
    }

    private static void sureLines() {
        due.says("32: The least line (0, 1000, 2000, .., 1000000)");
        // each likely by 250000: named by line 250000, and no more by 251000
        NamesOnLetters x = never("R", "1");
        due.call(x, 0, "sure", 1, 1500000);
        due.call(x, 251000, "sure", 1, 1499999);
        due.call(x, 251000, "sure", 1, 0);
        due.call(x, 501000, "sure", 3, 999999);
        due.call(x, 0, "sure", 3, 1000000);
        due.call(x, 751000, "sure", 7, 0);
        due.call(x, 0, "sure", 15, 0);
        // 999999 is named by line 999000, and by 1000000 no more
        NamesOnLetters y = houses("R");
        due.call(y, 1000000, "sure", 15, 0);
        due.call(y, 0, "sure", 15, 1);
        due.call(y, 1000, "sure", 8, 999999);
        due.call(y, 0, "sure", 8, 1000000);
        due.call(y, 334000, "sure", 1, 0);
        // HOUSES without READ LETTERS, and those that can be of none, are not named
        NamesOnLetters z = never("S", ".", "", "0");
        for (int bits = 1; bits < 16; bits++) {
            due.call(z, 0, "sure", bits, 0);
        }
        due.call(new NamesOnLetters(), 0, "sure", 1, 0);
    }

    private static void sureAtMost() {
        due.says("32: with which wrongly named are at most wrong (0 .. 24000000) in sum");
        String[] all = new String[24];
        java.util.Arrays.fill(all, "R");
        NamesOnLetters x = houses(all);
        due.call(x, 0, "sure", 8, 24000000);
        due.call(x, 1000, "sure", 8, 23999999);
        due.call(x, 1000, "sure", 8, 0);
        due.call(x, 0, "sure", 15, 24);
        due.call(x, 1000000, "sure", 15, 23);
        // 225806 and 322580 of kinds 0 and 3 for 0; 333333 and 0 for R: bits 9 are 548386 and 333333
        NamesOnLetters y = houses("0", "R");
        due.call(y, 0, "sure", 9, 451614 + 666667);
        due.call(y, 334000, "sure", 9, 451614 + 666666);
        due.call(y, 334000, "sure", 9, 451614);
        due.call(y, 549000, "sure", 9, 451613);
    }

    private static void mostHalf() {
        due.says("33: The fewest HOUSES with READ LETTERS that have half at least; the ROW: how many HOUSES have any, the sum");
        String[][] texts = {{}, {""}, {"."}, {"0", "1"}, {"S"}, {"RS"}, {"R"}, {"R", "R"}, {"R", "R", "R"}, {"RR", "R", "R"},
            {"R", "R", "RR"}, {"RR", "R", "R", "R"}, {"RRR", "R", "R", "R"}, {"R", "R", "R", "R", "RRRR"},
            {"RRRR", "R", "R", "R", "R", "R"}, {"RRS", "RSS", "R"}, {"RR", "RR", "RR", "R"}, {"RRRS", "RRSS", "SSSS"},
            {"R", "RRRR", "RRR", "RR"}};
        int[] want = {0, 0, 0, 0, 0, 0, 1, 1, 2, 1,
            1, 2, 1, 1,
            2, 1, 2, 1,
            2};
        long[][] rows = {{0, 0}, {0, 0}, {0, 0}, {0, 0}, {0, 0}, {0, 0}, {1, 1}, {2, 2}, {3, 3}, {3, 4},
            {3, 4}, {4, 5}, {4, 6}, {5, 8},
            {6, 9}, {2, 2}, {4, 7}, {1, 2},
            {4, 10}};
        for (int k = 0; k < texts.length; k++) {
            NamesOnLetters x = houses(texts[k]);
            x.pairs();
            due.call(x, want[k], "most");
            due.row(x, rows[k]);
        }
        String[] all = new String[24];
        java.util.Arrays.fill(all, "RRRR");
        NamesOnLetters x = houses(all);
        due.call(x, 12, "most");
        due.row(x, 24, 96);
        all[0] = "RRR";
        NamesOnLetters y = houses(all);
        due.call(y, 12, "most");
        due.row(y, 24, 95);
        java.util.Arrays.fill(all, "R");
        due.call(houses(all), 12, "most");
        all[23] = "RR";
        NamesOnLetters z = houses(all);
        due.call(z, 12, "most");
        due.row(z, 24, 25);
        java.util.Arrays.fill(all, "SSSS");
        due.call(houses(all), 0, "most");
    }
}
