/** Promises 1 to 6: a new object, name, house, letter, deal, of. */
public final class LettersTest {
    private static final Due due = new Due("letters");

    public static void main(String[] args) {
        newObject();
        names();
        houses();
        letters();
        fourToAHouse();
        ninetySix();
        deals();
        dealsRefused();
        told();
        due.end();
    }

    private static void newObject() {
        NamesOnLetters x = new NamesOnLetters();
        due.is("NONE", NamesOnLetters.NONE, -1);
        for (int what = 0; what < 10; what++) {
            due.call(x, 0, "count", what);
        }
        due.row(x);
        due.call(x, 1, "seed", 1);
        due.is("kept", x.again(0) | x.again(1) | x.again(2), false);
        due.call(x, 0, "read", 96);
        due.call(x, 1, "parts", 0, 1);
        // its box, law and letters are missing, and so is all that would be told of them
        due.thrown(x, "of", 0, 0);
        due.thrown(x, "value", 0, 0);
        due.refused(x, "likely", 0, 0);
    }

    private static void names() {
        NamesOnLetters x = new NamesOnLetters();
        int[][] wrong = {{-1, 0, 0}, {2, 0, 0}, {0, -1, 0}, {0, 2, 0}, {0, 0, -1}, {0, 0, 1010},
            {0, 0, Integer.MAX_VALUE}, {Integer.MIN_VALUE, 0, 0}};
        for (int[] a : wrong) {
            due.refused(x, "name", a);
        }
        due.call(x, 0, "count", 0);
        due.call(x, 0, "name", 0, 0, 0);
        due.call(x, 1, "name", 1, 1, 1009);
        for (int n = 2; n < 12; n++) {
            due.call(x, n, "name", n % 2, 0, 101 * 3 + 40);
        }
        due.refused(x, "name", 0, 0, 0);
        due.call(x, 12, "count", 0);
        // what was told of each is seen through a law
        x.house(0, 0, 0);
        x.letter(0, 1, 0, 0, 0);
        x.letter(0, 2, 0, 0, 0);
        Due.law(x, 0, "p*8+x*4+c*100+a*900");
        due.call(x, 8 + 4 + 900 + 100 * 900, "value", 0, 0);
        due.call(x, 300 + 40 * 900, "value", 0, 1);
    }

    private static void houses() {
        NamesOnLetters x = new NamesOnLetters();
        int[][] wrong = {{-1, 0, 0}, {4, 0, 0}, {0, -1, 0}, {0, 4, 0}, {0, 0, -1}, {0, 0, 6}};
        for (int[] a : wrong) {
            due.refused(x, "house", a);
        }
        due.call(x, 0, "house", 3, 2, 5);
        for (int h = 1; h < 24; h++) {
            due.call(x, h, "house", 0, 0, 0);
        }
        due.refused(x, "house", 0, 0, 0);
        due.call(x, 24, "count", 1);
        x.name(0, 0, 0);
        x.letter(0, 0, 0, 0, 0);
        Due.law(x, 0, "t*10+o");
        due.call(x, 32, "value", 0, 0);
    }

    private static void letters() {
        NamesOnLetters x = new NamesOnLetters();
        Due.names(x, "01");
        due.refused(x, "letter", 0, 0, 0, 0, 0);
        x.house(0, 0, 0);
        int[][] wrong = {{-1, 0, 0, 0, 0}, {1, 0, 0, 0, 0}, {0, -1, 0, 0, 0}, {0, 2, 0, 0, 0}, {0, 0, -1, 0, 0},
            {0, 0, 100, 0, 0}, {0, 0, 0, -1, 0}, {0, 0, 0, 40, 0}, {0, 0, 0, 0, -1}, {0, 0, 0, 0, 400}};
        for (int[] a : wrong) {
            due.refused(x, "letter", a);
        }
        due.call(x, 0, "count", 2);
        due.call(x, 0, "letter", 0, 0, 99, 39, 399);
        due.call(x, 1, "letter", 0, 1, 0, 0, 0);
        due.call(x, 9, "of", 0, 3);
        due.call(x, 3, "of", 0, 4);
    }

    private static void fourToAHouse() {
        NamesOnLetters x = new NamesOnLetters();
        Due.names(x, "0");
        x.house(0, 0, 0);
        x.house(0, 0, 0);
        for (int i = 0; i < 4; i++) {
            due.call(x, i, "letter", 1, 0, 0, 0, 0);
        }
        due.refused(x, "letter", 1, 0, 0, 0, 0);
        due.call(x, 4, "letter", 0, 0, 0, 0, 0);
    }

    private static void ninetySix() {
        NamesOnLetters x = new NamesOnLetters();
        Due.names(x, "0011");
        for (int h = 0; h < 24; h++) {
            x.house(0, 0, 0);
            due.call(x, 4 * h + 4, "deal", h, 1, 2);
        }
        due.call(x, 96, "count", 2);
        due.refused(x, "letter", 0, 0, 0, 0, 0);
        due.refused(x, "deal", 0, 0, 0);
    }

    private static void deals() {
        NamesOnLetters x = new NamesOnLetters();
        Due.names(x, "0101010");
        x.house(0, 0, 0);
        due.call(x, 4, "deal", 0, 10, 90);
        // R goes on from 1: 16838 % 6 = 2, so letters 0 and 3 are of PEOPLE 1
        long[][] dealt = {{0, 1, 10, 0, 1, 283}, {0, 6, 10, 0, 3, 178}, {0, 4, 90, 0, 0, 86}, {0, 5, 90, 0, 3, 284}};
        for (int i = 0; i < 4; i++) {
            for (int what = 0; what < 6; what++) {
                due.call(x, dealt[i][what], "of", i, what);
            }
            due.call(x, 0, "of", i, 6);
        }
        due.call(x, 595337866, "seed", 0);
        peoplesDealt();
    }

    /** Which two are of PEOPLE 1, by the draw of six. */
    private static void peoplesDealt() {
        String[] ways = {"1100", "1010", "1001", "0110", "0101", "0011"};
        for (int v = 0; v < 60; v++) {
            NamesOnLetters x = new NamesOnLetters();
            Due.names(x, "0011");
            x.house(0, 0, 0);
            x.seed(v);
            due.call(x, 4, "deal", 0, 0, 0);
            String way = ways[(v * 1103515245 + 12345 >>> 16) % 6];
            for (int i = 0; i < 4; i++) {
                due.is("people of letter " + i, x.of(i, 1) / 2, way.charAt(i) - '0');
            }
        }
    }

    private static void dealsRefused() {
        NamesOnLetters x = new NamesOnLetters();
        x.house(0, 0, 0);
        Due.names(x, "001");
        due.refused(x, "deal", 0, 1, 1);
        Due.names(x, "1");
        int[][] wrong = {{-1, 0, 0}, {1, 0, 0}, {0, -1, 0}, {0, 100, 0}, {0, 0, -1}, {0, 0, 100}};
        for (int[] a : wrong) {
            due.refused(x, "deal", a);
        }
        due.call(x, 1, "seed", 1);
        due.call(x, 4, "deal", 0, 0, 99);
        due.refused(x, "deal", 0, 0, 99);
        x.house(0, 0, 0);
        x.letter(1, 0, 0, 0, 0);
        due.refused(x, "deal", 1, 0, 99);
        due.call(x, 5, "count", 2);
        NamesOnLetters y = new NamesOnLetters();
        y.house(0, 0, 0);
        Due.names(y, "0111");
        due.refused(y, "deal", 0, 1, 1);
    }

    private static void told() {
        NamesOnLetters x = new NamesOnLetters();
        Due.names(x, "00");
        x.house(0, 0, 0);
        x.house(0, 0, 0);
        x.letter(1, 1, 42, 4 * 7 + 2, 365);
        long[] fresh = {1, 1, 42, 7, 2, 365, 0, 0, 0};
        for (int what = 0; what < 9; what++) {
            due.call(x, fresh[what], "of", 0, what);
        }
        x.ring(0, true);
        x.after(0, 2);
        due.call(x, 1, "of", 0, 6);
        due.call(x, 1, "of", 0, 7);
        due.call(x, 2, "of", 0, 8);
        int[][] none = {{1, 0}, {-1, 0}, {0, 9}, {0, -1}, {96, 0}, {Integer.MAX_VALUE, 0}, {0, Integer.MIN_VALUE}};
        for (int[] a : none) {
            due.thrown(x, "of", a);
        }
    }
}
