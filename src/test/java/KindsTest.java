/** Promises 26 to 33: table, kind, parts, likely, fit, named, sure, most. */
public final class KindsTest {
    private static final Due due = new Due("kinds");

    public static void main(String[] args) {
        tables();
        kinds();
        parts();
        likely();
        fits();
        fitsOfAll();
        named();
        sure();
        most();
        due.end();
    }

    /** A house for each text: 0 and 1 are letters of a people that are read, R and S such that are rung, . not read. */
    private static NamesOnLetters houses(String... texts) {
        NamesOnLetters x = new NamesOnLetters();
        Due.names(x, "01");
        for (int h = 0; h < texts.length; h++) {
            x.house(0, 0, 0);
            for (char c : texts[h].toCharArray()) {
                if (c == '.') {
                    x.letter(h, 0, 0, 0, 0);
                } else {
                    Due.read(x, h, c == '1' || c == 'S' ? 1 : 0, c == 'R' || c == 'S');
                }
            }
        }
        return x;
    }

    private static void tables() {
        NamesOnLetters x = houses("RR11", "RR1", "0SS", "01.", "..", "", "RRRR", "SSSS", "RRR1");
        due.call(x, 2, "table", 2, 0);
        due.call(x, 1, "table", 0, 2);
        due.call(x, 1, "table", 0, 0);
        due.call(x, 1, "table", 4, 0);
        due.call(x, 1, "table", 0, 4);
        due.call(x, 1, "table", 3, 0);
        due.call(x, 0, "table", 1, 1);
        int[][] wrong = {{-1, 0}, {5, 0}, {0, -1}, {0, 5}};
        for (int[] a : wrong) {
            due.refused(x, "table", a);
        }
        due.row(x);
    }

    private static void kinds() {
        NamesOnLetters x = houses("R");
        int[][] wrong = {{-1, 0, 0}, {4, 0, 0}, {0, -1, 0}, {0, 101, 0}, {0, 0, -1}, {0, 0, 101}};
        for (int[] a : wrong) {
            due.call(x, 0, "kind", a);
        }
        due.call(x, 333333, "likely", 0, 0);
        due.call(x, 1, "kind", 0, 100, 0);
        due.call(x, 1, "kind", 3, 0, 100);
        // 100 of 160
        due.call(x, 625000, "likely", 0, 0);
        due.call(x, 0, "likely", 0, 3);
        NamesOnLetters y = houses("S");
        y.kind(3, 0, 55);
        // 30, 15, 0, 55
        due.call(y, 550000, "likely", 0, 3);
    }

    private static void parts() {
        NamesOnLetters x = houses("");
        due.call(x, 1, "parts", 0, 99);
        due.call(x, 99, "parts", 0, 5);
        due.refused(x, "parts", 0, 100);
        due.refused(x, "parts", 0, -1);
        due.refused(x, "parts", 4, 1);
        due.refused(x, "parts", -1, 1);
        // a house without read letters is as likely as the parts: 5, 1, 1, 1
        due.call(x, 625000, "likely", 0, 0);
        due.call(x, 1, "parts", 1, 0);
        due.call(x, 1, "parts", 2, 0);
        due.call(x, 1, "parts", 3, 0);
        due.refused(x, "parts", 0, 0);
        due.call(x, 1000000, "likely", 0, 0);
        due.call(x, 5, "parts", 0, 6);
        due.call(x, 0, "parts", 3, 0);
    }

    private static void likely() {
        NamesOnLetters x = houses("RR11", "0", "");
        // 30*30*70*70, 30*30*85*85, 30*30*100*100, 0: 4410000, 6502500, 9000000 of 19912500
        due.call(x, 221468, "likely", 0, 0);
        due.call(x, 326553, "likely", 0, 1);
        due.call(x, 451977, "likely", 0, 2);
        due.call(x, 0, "likely", 0, 3);
        // 70, 70, 70, 100
        due.call(x, 225806, "likely", 1, 0);
        due.call(x, 322580, "likely", 1, 3);
        due.call(x, 250000, "likely", 2, 3);
        x.parts(3, 0);
        due.call(x, 333333, "likely", 1, 0);
        int[][] wrong = {{3, 0}, {-1, 0}, {0, 4}, {0, -1}};
        for (int[] a : wrong) {
            due.refused(x, "likely", a);
        }
        NamesOnLetters y = houses("S");
        y.parts(0, 0);
        y.parts(1, 0);
        // kinds 2 and 3 never ring for PEOPLE 1
        due.call(y, -2, "likely", 0, 0);
        due.call(y, -2, "likely", 0, 2);
        due.row(y);
    }

    private static void fits() {
        NamesOnLetters none = houses("", ".");
        due.call(none, 0, "fit");
        due.row(none, 0, 0, 0, 10);
        NamesOnLetters silent = houses("0011", "0011");
        due.call(silent, 2, "fit");
        due.row(silent, 0, 0, 0, 10);
        // rung once, silent once: t * 30 by (t * 70 + (10 - t) * 100) is greatest for t at 10
        NamesOnLetters x = houses("R", "0");
        due.call(x, 2, "fit");
        due.row(x, 0, 0, 10, 0);
        // t * 100 by (10 - t) * 100 is greatest for t at 5; kind 2 is as good as kind 0
        NamesOnLetters y = houses("R", "0");
        y.kind(0, 100, 0);
        y.kind(1, 100, 0);
        y.kind(2, 100, 0);
        due.call(y, 2, "fit");
        due.row(y, 0, 0, 5, 5);
        // one house, rung once: kinds 0, 1 and 2 are alike; what was likelier before is nothing to it
        NamesOnLetters one = houses("R");
        due.call(one, 1, "fit");
        due.row(one, 0, 0, 10, 0);
        one.kind(0, 2, 0);
        one.kind(1, 1, 0);
        one.kind(2, 1, 0);
        due.call(one, 1, "fit");
        due.row(one, 10, 0, 0, 0);
        // a house that no kind can have
        NamesOnLetters never = houses("S", "R");
        for (int k = 0; k < 4; k++) {
            never.kind(k, 30, 0);
        }
        due.call(never, -2, "fit");
        due.row(never);
    }

    private static void fitsOfAll() {
        String[] texts = new String[24];
        for (int h = 0; h < 24; h++) {
            texts[h] = h % 3 == 0 ? "RRSS" : h % 3 == 1 ? "RR11" : "0011";
        }
        NamesOnLetters x = houses(texts);
        // RRSS is possible by kinds 0 (1) and 1 (99), RR11 by kind 2, 0011 by kind 3 alone
        x.kind(0, 90, 90);
        x.kind(1, 99, 100);
        x.kind(2, 100, 0);
        x.kind(3, 0, 0);
        due.call(x, 24, "fit");
        due.row(x, 0, 3, 3, 4);
        for (int k = 0; k < 4; k++) {
            x.kind(k, 100, 100);
        }
        due.call(x, -2, "fit");
        due.row(x, 0, 3, 3, 4);
    }

    private static void named() {
        NamesOnLetters x = houses("RR11", "0", "", ".", "S");
        // of kind 2: 451977, 225806, and 0 for a ring of PEOPLE 1
        due.call(x, 1, "named", 4, 300000);
        due.row(x, 1, 548023, 225806);
        due.call(x, 2, "named", 4, 225806);
        due.row(x, 3, 548023 + 774194, 0);
        due.call(x, 1, "named", 4, 225807);
        due.call(x, 3, "named", 4, 0);
        due.row(x, 19, 548023 + 774194 + 1000000, 0);
        // of kind 0 alone: 221468, 225806, and 30 of 45
        due.call(x, 1, "named", 1, 666666);
        due.row(x, 16, 333334, 221468 + 225806);
        // of kinds 2 and 3 together: 451977, 225806 + 322580, 0
        due.call(x, 1, "named", 12, 500000);
        due.row(x, 2, 451614, 451977);
        due.call(x, 0, "named", 15, 1000000);
        due.row(x, 0, 0, 999998 + 999998 + 999999);
        int[][] wrong = {{0, 0}, {16, 0}, {-1, 0}, {1, -1}, {1, 1000001}};
        for (int[] a : wrong) {
            due.refused(x, "named", a);
        }
        due.row(x, 0, 0, 999998 + 999998 + 999999);
        // a house that can be of none is not named; 411764 and 588235 leave one
        x.parts(0, 0);
        x.parts(1, 0);
        due.call(x, 2, "named", 15, 0);
        due.row(x, 3, 1, 0);
    }

    private static void sure() {
        NamesOnLetters x = houses("RR11", "0", "");
        due.call(x, 0, "sure", 4, 548023 + 774194);
        due.call(x, 226000, "sure", 4, 548023 + 774193);
        due.call(x, 226000, "sure", 4, 548023);
        due.call(x, 452000, "sure", 4, 548022);
        due.call(x, 452000, "sure", 4, 0);
        due.call(x, 0, "sure", 4, 24000000);
        int[][] wrong = {{0, 0}, {16, 0}, {1, -1}, {1, 24000001}};
        for (int[] a : wrong) {
            due.refused(x, "sure", a);
        }
        due.call(new NamesOnLetters(), 0, "sure", 1, 0);
        due.row(x);
    }

    private static void most() {
        // fewer: 2, 1, 0, 1, 0 (it is one more), 0 (not read), 3
        NamesOnLetters x = houses("RR11", "R1", "RS", "RRS", "S0", "..", "RRR");
        due.call(x, 2, "most");
        due.row(x, 4, 7);
        due.call(houses("RR11", "R1", "R1"), 1, "most");
        NamesOnLetters y = houses("R", "R", "R", "R", "R");
        due.call(y, 3, "most");
        due.row(y, 5, 5);
        NamesOnLetters z = houses("RRRR", "R", "R", "R", "R");
        due.call(z, 1, "most");
        due.row(z, 5, 8);
        NamesOnLetters none = houses("S", "0", "RS");
        due.call(none, 0, "most");
        due.row(none, 0, 0);
    }
}
