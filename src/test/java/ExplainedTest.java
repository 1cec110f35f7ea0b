/** Promises 34 to 39: both, explains, join, bounds, years, mornings. */
public final class ExplainedTest {
    private static final Due due = new Due("explained");

    public static void main(String[] args) {
        both();
        explains();
        explainsErrors();
        joins();
        bounds();
        years();
        yearsNone();
        mornings();
        due.end();
    }

    private static NamesOnLetters fresh() {
        NamesOnLetters x = new NamesOnLetters();
        Due.names(x, "01");
        for (int h = 0; h < 8; h++) {
            x.house(h % 4, h / 2, 0);
        }
        return x;
    }

    private static void both() {
        NamesOnLetters x = fresh();
        Due.read(x, 0, 0, 50, 0, true);
        Due.read(x, 0, 0, 49, 0, false);
        Due.read(x, 0, 1, 99, 0, true);
        due.call(x, -2, "both", 50);
        Due.read(x, 0, 1, 0, 0, false);
        Due.read(x, 1, 0, 10, 0, true);
        Due.read(x, 1, 1, 50, 0, false);
        x.letter(1, 1, 50, 0, 0);
        // 1 - 1/2 less (1/2 - 0)
        due.call(x, 0, "both", 50);
        due.row(x, 1, 1, 1, 2, 1, 2, 0, 1, 0, 1);
        Due.read(x, 1, 1, 50, 0, false);
        due.call(x, 1, "both", 50);
        due.row(x, 1, 1, 1, 2, 1, 3, 0, 1, 1, 6);
        Due.read(x, 2, 0, 50, 0, false);
        due.call(x, 2, "both", 50);
        due.row(x, 1, 2, 1, 2, 1, 3, 0, 1, -1, 3);
        due.call(x, -2, "both", 51);
        for (int v : new int[] {0, 100, -1}) {
            due.refused(x, "both", v);
        }
        due.row(x, 1, 2, 1, 2, 1, 3, 0, 1, -1, 3);
        // none of PEOPLE 0 is below
        due.call(x, -2, "both", 1);
        due.call(new NamesOnLetters(), -2, "both", 99);
    }

    private static void explains() {
        NamesOnLetters x = fresh();
        due.call(x, -2, "explains", 0);
        // street 0: 1 - 0 of two letters; street 1: 0 - 1/2 of three; street 2: PEOPLE 0 alone
        Due.read(x, 0, 0, 5, 0, true);
        due.call(x, -2, "explains", 0);
        Due.read(x, 1, 1, 5, 0, false);
        Due.read(x, 2, 0, 5, 1, false);
        Due.read(x, 3, 1, 5, 1, true);
        Due.read(x, 4, 1, 5, 1, false);
        Due.read(x, 5, 0, 5, 2, true);
        x.letter(6, 0, 5, 2, 0);
        // all: 2/3 - 1/3; joined: (1 * 2 - 1/2 * 3) / 5 = 1/10
        due.call(x, 0, "explains", 0);
        due.row(x, 1, 10, 7, 30);
        // trades by houses 0 4: 1 - 0 of two; 1 5: 1 - 0 of two; 2: none; 3: none
        due.call(x, 0, "explains", 1);
        due.row(x, 1, 1, -2, 3);
        // towns by houses 0 1: 1 - 0; 2 3: 0 - 1; 4 5: 1 - 0; two each
        due.call(x, 0, "explains", 2);
        due.row(x, 1, 3, 0, 1);
        due.call(x, 0, "explains", 3);
        due.row(x, 1, 3, 0, 1);
        due.refused(x, "explains", 4);
        due.refused(x, "explains", -1);
        due.row(x, 1, 3, 0, 1);
    }

    private static void explainsErrors() {
        NamesOnLetters x = fresh();
        Due.read(x, 0, 0, 5, 4 * 9 + 0, true);
        Due.read(x, 0, 1, 5, 4 * 9 + 1, false);
        Due.read(x, 0, 0, 5, 4 * 8 + 0, false);
        Due.read(x, 0, 1, 5, 4 * 0 + 1, true);
        due.call(x, 0, "explains", 3);
        // errors 9 alone have both; of all 1/2 - 1/2
        due.row(x, 1, 1, -1, 1);
        due.call(x, -2, "explains", 0);
        due.row(x, 1, 1, -1, 1);
    }

    private static void joins() {
        NamesOnLetters x = fresh();
        due.call(x, -2, "join", 0);
        // trade 0 (houses 0, 4): PEOPLE 0 one of two, PEOPLE 1 one of three
        Due.read(x, 0, 0, 5, 0, true);
        Due.read(x, 0, 0, 5, 1, false);
        Due.read(x, 0, 1, 5, 2, true);
        Due.read(x, 4, 1, 5, 3, false);
        Due.read(x, 4, 1, 5, 0, false);
        x.letter(4, 0, 5, 0, 0);
        // trade 1: PEOPLE 0 one of one, PEOPLE 1 none of one
        Due.read(x, 1, 0, 5, 1, true);
        Due.read(x, 1, 1, 5, 1, false);
        // (1 * 2 / 5 + 1 * 1 / 2) by (1 * 1 / 5)
        due.call(x, 0, "join", 0);
        due.row(x, 9, 2);
        // town 0 (houses 0, 1): two of three by one of two, five in all; town 2 (house 4): PEOPLE 1 alone
        due.call(x, 0, "join", 1);
        due.row(x, 2, 1);
        // street 0: 1 * 1 / 2; 1: 1 * 1 / 3; 2 and 3: none; nothing below
        due.call(x, -2, "join", 2);
        due.refused(x, "join", 3);
        due.refused(x, "join", -1);
        due.row(x, 2, 1);
        NamesOnLetters y = fresh();
        Due.read(y, 0, 0, 5, 3, false);
        Due.read(y, 0, 1, 5, 3, true);
        due.call(y, 0, "join", 2);
        due.row(y, 0, 1);
    }

    private static void bounds() {
        NamesOnLetters x = fresh();
        due.call(x, -2, "bounds", 0);
        for (int h = 0; h < 6; h++) {
            Due.read(x, h, 0, h < 4);
        }
        x.letter(7, 1, 0, 0, 0);
        due.call(x, -2, "bounds", 1);
        due.call(x, 4, "bounds", 0);
        due.row(x, 0, 1, 2, 3);
        x.after(0, 1);
        x.after(1, 2);
        due.call(x, 2, "bounds", 0);
        due.row(x, 1, 6, 1, 2);
        x.after(2, 1);
        x.after(3, 1);
        due.call(x, 0, "bounds", 0);
        due.row(x, 1, 2, 1, 2);
        due.refused(x, "bounds", 2);
        due.refused(x, "bounds", -1);
        due.row(x, 1, 2, 1, 2);
    }

    private static void years() {
        NamesOnLetters x = fresh();
        Due.read(x, 0, 0, 50, 0, true);
        Due.read(x, 0, 0, 60, 0, false);
        Due.read(x, 0, 0, 40, 0, false);
        Due.read(x, 1, 1, 50, 0, false);
        Due.read(x, 1, 1, 55, 0, false);
        Due.read(x, 1, 1, 70, 0, true);
        x.letter(1, 1, 52, 0, 0);
        // from 50 on 1/2; PEOPLE 1: 1/3 from 50, 1/2 from 51 on
        due.call(x, 1, "years", 50);
        due.row(x, 1, 2);
        // 1/3 of all three
        due.call(x, 0, "years", 40);
        due.row(x, 1, 3);
        due.call(x, 0, "years", 0);
        // 0 of those from 51 on
        due.call(x, 0, "years", 51);
        due.row(x, 1, 2);
        due.call(x, -2, "years", 61);
        due.refused(x, "years", -1);
        due.refused(x, "years", 100);
        due.row(x, 1, 2);
        due.call(x, 0, "years", 60);
        due.row(x, 1, 1);
    }

    private static void yearsNone() {
        NamesOnLetters x = fresh();
        due.call(x, -2, "years", 0);
        Due.read(x, 0, 0, 0, 0, true);
        due.call(x, -2, "years", 0);
        Due.read(x, 0, 1, 99, 0, false);
        due.call(x, -2, "years", 0);
        Due.read(x, 0, 1, 98, 0, true);
        due.call(x, -2, "years", 0);
        due.row(x);
        NamesOnLetters y = fresh();
        Due.read(y, 0, 0, 0, 0, true);
        Due.read(y, 0, 1, 98, 0, false);
        Due.read(y, 0, 1, 99, 0, true);
        due.call(y, 99, "years", 0);
        due.row(y, 1, 1);
    }

    private static void mornings() {
        NamesOnLetters none = new NamesOnLetters();
        due.call(none, 0, "mornings", 1, 1, 1);
        due.row(none, -1, 0);
        NamesOnLetters x = fresh();
        due.call(x, 0, "mornings", 9, 9, 9);
        due.row(x, 0, 0);
        Due.read(x, 1, 0, false);
        Due.read(x, 1, 0, true);
        Due.read(x, 2, 0, true);
        Due.read(x, 3, 0, true);
        x.letter(4, 0, 0, 0, 0);
        x.after(2, 2);
        x.after(3, 1);
        // 2 * 3 + 5, 3 + 5 + 7, 3 + 5
        due.call(x, 11 + 15 + 8, "mornings", 3, 5, 7);
        due.row(x, 2, 15);
        due.call(x, 11 + 11 + 8, "mornings", 3, 5, 3);
        due.row(x, 1, 11);
        due.call(x, 0, "mornings", 0, 0, 0);
        due.row(x, 0, 0);
        due.call(x, 11 + 11 + 8, "mornings", 3, 5, 3);
        int[][] wrong = {{-1, 0, 0}, {100, 0, 0}, {0, -1, 0}, {0, 100, 0}, {0, 0, -1}, {0, 0, 1000}};
        for (int[] a : wrong) {
            due.refused(x, "mornings", a);
        }
        due.row(x, 1, 11);
        due.call(x, 4 * 99 + 3 * 99 + 999, "mornings", 99, 99, 999);
        due.row(x, 2, 1197);
    }
}
