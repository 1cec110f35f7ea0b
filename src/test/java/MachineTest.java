/** Promises 40 to 43: asked, pairs, ask, nearly. */
public final class MachineTest {
    private static final Due due = new Due("machine");

    public static void main(String[] args) {
        asked();
        forty();
        pairs();
        asks();
        asksNone();
        nearly();
        due.end();
    }

    /** Letters of worth 10, 20, 30, 30 and errors 3, 2, 1, 1, the second of PEOPLE 1; none is read. */
    private static NamesOnLetters four() {
        NamesOnLetters x = new NamesOnLetters();
        Due.names(x, "01");
        x.house(0, 0, 0);
        x.letter(0, 0, 10, 12, 0);
        x.letter(0, 1, 20, 8, 0);
        x.letter(0, 0, 30, 4, 0);
        x.letter(0, 0, 30, 4, 0);
        return x;
    }

    private static void asked() {
        NamesOnLetters x = four();
        int[][] wrong = {{0, 0, 1}, {-1, 0, 1}, {0, -1, 1}, {4, 0, 1}, {0, 4, 1}, {0, 1, 3}, {0, 1, -1}};
        for (int[] a : wrong) {
            due.refused(x, "asked", a);
        }
        due.call(x, 0, "count", 7);
        due.call(x, 1, "asked", 0, 1, 0);
        due.call(x, 2, "asked", 1, 0, 1);
        due.call(x, 3, "asked", 1, 0, 2);
        due.call(x, 3, "count", 7);
    }

    private static void forty() {
        NamesOnLetters x = four();
        Due.law(x, 0, "w");
        for (int k = 1; k <= 40; k++) {
            due.call(x, k, "asked", 0, 1, 1);
        }
        due.refused(x, "asked", 0, 1, 1);
        due.call(x, 0, "pairs");
        due.row(x, 40, -1, -1, -1, -1, -1);
        due.call(x, 1, "nearly", 40);
        due.call(x, 0, "nearly", 39);
    }

    private static void pairs() {
        NamesOnLetters x = four();
        Due.law(x, 0, "w");
        Due.law(x, 2, "e");
        Due.law(x, 3, "7");
        Due.law(x, 5, "w+100*k+100*n+m");
        due.call(x, 1 + 4 + 8 + 32, "pairs");
        due.row(x, 0, -1, 0, 0, -1, 0);
        // the greater worth was taken, as the second
        x.asked(0, 1, 2);
        due.call(x, 1 + 8 + 32, "pairs");
        due.row(x, 0, -1, 1, 0, -1, 0);
        // equal ones: either may be taken
        x.asked(2, 3, 1);
        x.asked(2, 3, 2);
        x.asked(2, 3, 0);
        due.call(x, 1 + 8 + 32, "pairs");
        // what the house has read is nothing to the machine
        x.ring(0, true);
        x.ring(2, true);
        due.call(x, 1 + 8 + 32, "pairs");
        x.asked(0, 2, 0);
        due.call(x, 8, "pairs");
        due.row(x, 1, -1, 2, 0, -1, 1);
        x.asked(0, 2, 1);
        due.call(x, 8, "pairs");
        due.row(x, 2, -1, 2, 0, -1, 2);
    }

    private static void asks() {
        NamesOnLetters x = four();
        Due.law(x, 0, "w");
        Due.law(x, 1, "e");
        // each answer leaves one at most for letters 0 and 1
        due.call(x, 1, "ask");
        due.row(x, 0, 1);
        Due.law(x, 2, "p");
        // 0 1: w, p by the second, e by the first; 0 2: w and p (alike) by it, e and p by the first; 1 2: p e by it, w
        due.call(x, 2, "ask");
        due.row(x, 0, 1);
        Due.law(x, 3, "!p");
        // 0 1: two by each; 0 2 and more: three, as p and !p are alike
        due.call(x, 2, "ask");
        due.row(x, 0, 1);
        NamesOnLetters y = new NamesOnLetters();
        Due.names(y, "0");
        y.house(0, 0, 0);
        int[] worth = {50, 50, 50, 60};
        int[] errors = {4, 4, 4, 3};
        for (int i = 0; i < 4; i++) {
            y.letter(0, 0, worth[i], 4 * errors[i], 0);
        }
        Due.law(y, 4, "w");
        Due.law(y, 5, "e");
        due.call(y, 1, "ask");
        due.row(y, 0, 3);
        y.asked(0, 3, 2);
        due.call(y, -2, "ask");
        due.row(y, 0, 3);
        // letter 0 has the least of both: only letters 1 and 2 part the laws
        NamesOnLetters z = new NamesOnLetters();
        Due.names(z, "0");
        z.house(0, 0, 0);
        z.letter(0, 0, 10, 0, 0);
        z.letter(0, 0, 20, 4 * 3, 0);
        z.letter(0, 0, 30, 4 * 2, 0);
        Due.law(z, 0, "w");
        Due.law(z, 1, "e");
        due.call(z, 1, "ask");
        due.row(z, 1, 2);
    }

    private static void asksNone() {
        NamesOnLetters x = new NamesOnLetters();
        due.call(x, -2, "ask");
        Due.names(x, "0");
        x.house(0, 0, 0);
        Due.law(x, 0, "w");
        Due.law(x, 1, "e");
        due.call(x, -2, "ask");
        x.letter(0, 0, 0, 0, 0);
        due.call(x, -2, "ask");
        due.row(x);
        x.letter(0, 0, 0, 0, 0);
        due.call(x, 2, "ask");
        due.row(x, 0, 1);
    }

    private static void nearly() {
        NamesOnLetters x = four();
        due.call(x, 0, "nearly", 40);
        Due.law(x, 0, "w");
        Due.law(x, 1, "e");
        Due.law(x, 4, "3");
        x.asked(0, 1, 1);
        x.asked(0, 2, 1);
        x.asked(1, 2, 2);
        // against: 2, 1, 0
        due.call(x, 16, "nearly", 0);
        due.call(x, 18, "nearly", 1);
        due.call(x, 19, "nearly", 2);
        due.refused(x, "nearly", -1);
        due.refused(x, "nearly", 41);
        due.row(x);
    }
}
