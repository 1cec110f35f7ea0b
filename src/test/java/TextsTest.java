/** Promises 7 to 11: sign, end, law, filter, value. */
public final class TextsTest {
    private static final Due due = new Due("texts");

    public static void main(String[] args) {
        signs();
        ends();
        laws();
        filters();
        wrongSigns();
        lengths();
        noSuchText();
        values();
        houseSoFar();
        valuesRefused();
        due.end();
    }

    private static void signs() {
        NamesOnLetters x = new NamesOnLetters();
        // "w<5 " by its bytes, the highest first; the fourth is cut away
        due.call(x, 4, "sign", 0x773c3520);
        due.call(x, 1, "end", 3);
        due.call(x, 0, "law", 0);
        for (int k = 1; k <= 15; k++) {
            due.call(x, 4 * k, "sign", 0x31313131);
        }
        due.refused(x, "sign", 0);
        due.call(x, 60, "count", 9);
        due.call(x, 1, "end", 57);
        due.refused(x, "sign", 0);
        due.call(x, 1, "end", 56);
        due.call(x, 60, "sign", -1);
    }

    private static void ends() {
        NamesOnLetters x = new NamesOnLetters();
        due.call(x, 1, "end", 0);
        due.call(x, 0, "end", 1);
        due.call(x, 0, "end", -1);
        x.sign(0x772b7721);
        due.call(x, 0, "end", 5);
        due.call(x, 0, "end", Integer.MIN_VALUE);
        due.call(x, 4, "count", 9);
        due.call(x, 1, "end", 4);
        due.call(x, 1, "end", 3);
        due.call(x, 3, "count", 9);
        due.call(x, 0, "end", 4);
        due.call(x, 0, "law", 0);
    }

    private static void laws() {
        NamesOnLetters x = new NamesOnLetters();
        for (int i = 0; i < 6; i++) {
            due.is("law " + i, Due.law(x, i, "w"), 0);
            due.call(x, (2 << i) - 1, "count", 5);
        }
        due.call(x, 0, "count", 6);
        due.call(x, 0, "count", 9);
        String[] good = {"w", "0", "007", "999", "w|e&s<d+p*x", "!!--!w", "w--w", "w-!w",
            "(((((w)))))", "w<e&s<d", "w<e|s>d", "(w<e)=(s<d)", "w<(e<s)", "(w)<e", "((w=1)=1)=(1)", "-(w)",
            "w+e-s*d", "n+k+m", "c+a+t+o", "(w)+(e)+(s)", "w=-1", "w=!1"};
        for (String t : good) {
            due.is(t, Due.law(x, 0, t), 0);
        }
    }

    private static void filters() {
        NamesOnLetters x = new NamesOnLetters();
        for (int i = 0; i < 6; i++) {
            due.is("filter " + i, Due.filter(x, i, "r"), 0);
            due.call(x, (2 << i) - 1, "count", 6);
        }
        due.call(x, 0, "count", 5);
        due.is("r in a law", Due.law(x, 0, "w+r"), -3);
        for (String house : new String[] {"n", "k", "m"}) {
            due.is(house + " in a filter", Due.filter(x, 0, "w+" + house), -3);
            due.is(house + " in a law", Due.law(x, 0, "w+" + house), 0);
        }
        due.is("things of both", Due.filter(x, 0, "w+e+s+d+p+x+c+a+t+o+r"), 0);
        due.is("end", Due.filter(x, 0, "r&"), -3);
        due.is("long", Due.filter(x, 0, "1+1+1+1+1+1+1+1+1+1+1+1+1+1+1+1+1+1+1+1+1"), -41);
        due.is("empty", Due.filter(x, 0, ""), -1);
    }

    /** Each text, and the place of the sign that can't stand. */
    private static void wrongSigns() {
        String[] texts = {"", "z", "r", "W", " w", "w ", "+w", "*", ")", "()", "w)", "(w))", "ww", "w1", "1w", "1234",
            "0000", "w<", "w<e<s", "w<e=s", "w=e>s", "w<e&s<d<p", "(w<e<s)", "w<(e)<s", "w<e+s<d", "w&", "w|", "w|&w",
            "w&|w", "w!", "w!w", "w(", "w(e)", "(w)(e)", "(w)1", "1(w)", "!", "-", "!)", "w*", "w**e", "w++e", "w<=e",
            "(", "(w", "((w)", "((((((w))))))", "((((()", "w<<e", "(w<e", "12+1234", "1+", "w\u0000", "\u00e9", "w\u00ff",
            "(w)<(e)<(s)", "w|e<s<d", "w<e|s<d=p", "(1<2)<3<4", "(1)2"};
        int[] places = {0, 0, 0, 0, 0, 1, 0, 0, 0, 1, 1, 3, 1, 1, 1, 3,
            3, 2, 3, 3, 3, 7, 4, 5, 5, 2, 2, 2,
            2, 1, 1, 1, 1, 3, 3, 1, 1, 1, 1, 2, 2, -1, 2,
            1, 2, 4, 5, 5, 2, 4, 6, 2, 1, 0, 1,
            7, 5, 7, 7, 3};
        NamesOnLetters x = new NamesOnLetters();
        Due.law(x, 0, "77");
        for (int k = 0; k < texts.length; k++) {
            // "w++e" is the only one whose second sign is no sign ahead of a thing
            int place = texts[k].equals("w++e") ? 2 : places[k];
            due.is(texts[k], Due.law(x, 0, texts[k]), -1 - place);
            due.call(x, 0, "count", 9);
        }
        x.name(0, 0, 0);
        x.house(0, 0, 0);
        x.letter(0, 0, 0, 0, 0);
        due.call(x, 77, "value", 0, 0);
    }

    private static void lengths() {
        NamesOnLetters x = new NamesOnLetters();
        String forty = "w+w+w+w+w+w+w+w+w+w+w+w+w+w+w+w+w+w+w+ww";
        due.is("39 signs", Due.law(x, 0, forty.substring(0, 39)), 0);
        due.is("wrong at the 40th", Due.law(x, 0, forty), -40);
        due.is("40 signs", Due.law(x, 0, forty.substring(0, 38) + "12"), 0);
        due.is("40 signs, too early an end", Due.law(x, 0, forty.substring(0, 39) + "+"), -41);
        due.is("41 signs", Due.law(x, 0, forty.substring(0, 39) + "+w"), -41);
        due.is("41 signs, the 41st wrong", Due.law(x, 0, forty.substring(0, 39) + "+)"), -41);
        due.is("41 signs, the first 40 could end", Due.law(x, 0, forty.substring(0, 38) + "123"), -41);
        due.is("60 signs, one wrong before", Due.law(x, 0, "w+)" + forty + "+w+w+w+w+w+w+w+w+"), -3);
        due.is("60 signs", Due.law(x, 0, "!!!!!!!!!!!!!!!!!!!!!!!!!!!!!!!!!!!!!!!!!!!!!!!!!!!!!!!!!!!!"), -41);
        due.is("40 signs ahead", Due.law(x, 0, "!!!!!!!!!!!!!!!!!!!!!!!!!!!!!!!!!!!!!!!!"), -41);
        due.is("39 signs ahead", Due.law(x, 0, "!-!-!-!-!-!-!-!-!-!-!-!-!-!-!-!-!-!-!-!5"), 0);
    }

    private static void noSuchText() {
        NamesOnLetters x = new NamesOnLetters();
        for (int i : new int[] {-1, 6, Integer.MIN_VALUE, Integer.MAX_VALUE}) {
            due.is("law " + i, Due.law(x, i, "w"), -100);
            due.call(x, 0, "count", 9);
            due.is("wrong law " + i, Due.law(x, i, "+"), -100);
            due.is("filter " + i, Due.filter(x, i, "w"), -100);
            due.call(x, 0, "count", 9);
        }
        due.call(x, 0, "count", 5);
        due.call(x, 0, "count", 6);
    }

    private static void values() {
        NamesOnLetters x = new NamesOnLetters();
        x.name(1, 1, 101 * 9 + 100);
        x.house(3, 2, 0);
        x.letter(0, 0, 80, 4 * 5 + 1, 300);
        String[] texts = {"w", "e", "s", "d", "p", "x", "c", "a", "t", "o", "n", "k", "m", "5", "05", "999",
            "1+2*3", "(1+2)*3", "2-3-4", "2-(3-4)", "2*3-4*5", "-3*2", "-(3)", "--3", "!0", "!5", "!!5", "-!0", "!-1",
            "3<5", "5<3", "3<3", "3>3", "5>3", "3=3", "3=4", "1+2<4", "1|0", "0|0", "7&8", "7&0", "0-1|0", "2&0-1",
            "1|0&0", "(1|0)&0", "0&0|1", "1=1&2=2", "!1=0", "!(1=0)", "-1<0", "2=1+1", "1<2",
            "999*999*999*999", "0-999*999*999", "w*e-s*d", "w>79&d<301", "2--3", "2-!3", "2*-3", "!w*5", "-w-w",
            "1<2&2<3", "(1<2)<3", "(5<2)<1"};
        int[] want = {80, 5, 1, 300, 1, 1, 9, 100, 3, 2, 0, 0, 0, 5, 5, 999,
            7, 9, -5, 3, -14, -6, -3, 3, 1, 0, 1, -1, 0,
            1, 0, 0, 0, 1, 1, 0, 1, 1, 0, 1, 0, 1, 1,
            1, 0, 1, 1, 1, 1, 1, 1, 1,
            999 * 999 * 999 * 999, -999 * 999 * 999, 100, 1, 5, 2, -6, 0, -160,
            1, 1, 1};
        for (int k = 0; k < texts.length; k++) {
            due.is("law " + texts[k], Due.law(x, 2, texts[k]), 0);
            due.is("value of " + texts[k], x.value(2, 0), want[k]);
        }
    }

    private static void houseSoFar() {
        NamesOnLetters x = new NamesOnLetters();
        Due.names(x, "01");
        x.house(0, 0, 0);
        x.house(0, 0, 0);
        x.letter(0, 0, 40, 0, 0);
        x.letter(0, 1, 70, 0, 0);
        x.letter(0, 1, 90, 0, 0);
        x.letter(1, 0, 99, 0, 0);
        Due.law(x, 5, "n*100+k*10+(m=70)*5+(m=40)*3+(m=0)");
        due.call(x, 1, "value", 5, 2);
        x.ring(1, true);
        x.ring(3, true);
        due.call(x, 115, "value", 5, 2);
        x.ring(0, false);
        due.call(x, 125, "value", 5, 2);
        due.call(x, 125, "value", 5, 0);
        due.call(x, 110, "value", 5, 3);
        // the greatest worth of its own house: not the last one's, and not another house's
        NamesOnLetters y = new NamesOnLetters();
        Due.names(y, "0");
        y.house(0, 0, 0);
        y.house(0, 0, 0);
        y.letter(0, 0, 90, 0, 0);
        y.letter(0, 0, 70, 0, 0);
        y.letter(1, 0, 99, 0, 0);
        y.ring(0, false);
        y.ring(1, false);
        Due.law(y, 0, "m");
        due.call(y, 90, "value", 0, 1);
        due.call(y, 0, "value", 0, 2);
    }

    private static void valuesRefused() {
        NamesOnLetters x = new NamesOnLetters();
        Due.names(x, "0");
        x.house(0, 0, 0);
        x.letter(0, 0, 0, 0, 0);
        Due.law(x, 0, "1");
        Due.filter(x, 1, "1");
        due.call(x, 1, "value", 0, 0);
        int[][] none = {{1, 0}, {-1, 0}, {6, 0}, {0, 1}, {0, -1}, {Integer.MAX_VALUE, 0}, {0, Integer.MIN_VALUE}};
        for (int[] a : none) {
            due.thrown(x, "value", a);
        }
    }
}
