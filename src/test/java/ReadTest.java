/** Promises 12 to 16: read, ring, box, after, seed. */
public final class ReadTest {
    private static final Due due = new Due("read");

    public static void main(String[] args) {
        byDays();
        byLaws();
        lawsSeeTheHouse();
        readRefused();
        rings();
        boxes();
        boxKinds();
        boxesRefused();
        afterRings();
        seeds();
        due.end();
    }

    private static NamesOnLetters withLetters(int law, int... days) {
        NamesOnLetters x = new NamesOnLetters();
        Due.names(x, "01");
        for (int i = 0; i < days.length; i++) {
            if (i % 4 == 0) {
                x.house(0, 0, law);
            }
            x.letter(i / 4, i % 2, 10 * i % 100, 0, days[i]);
        }
        return x;
    }

    private static void byDays() {
        NamesOnLetters x = withLetters(0, 9, 3, 3, 0, 7);
        due.call(x, 0, "read", 0);
        due.call(x, 1, "seed", 1);
        int[] order = {3, 1, 2, 4, 0};
        for (int k = 0; k < 5; k++) {
            due.call(x, 0, "of", order[k], 6);
            due.call(x, 0, "read", 1);
            due.call(x, 1, "of", order[k], 6);
            due.call(x, k + 1, "count", 3);
        }
        due.call(x, 0, "read", 96);
        // without a law no letter is rung, but each took its draw
        due.call(x, 0, "count", 4);
        NamesOnLetters y = withLetters(0, 9, 3, 3, 0, 7);
        due.call(y, 0, "read", 96);
        due.call(y, 5, "count", 3);
        due.is("R after 5 draws", y.seed(0), x.seed(0));
    }

    private static void byLaws() {
        // the draws of 100 from R = 1 on: 38, 26, 13, 83, 19, 95, 78, 87
        NamesOnLetters x = withLetters(1, 0, 1, 2, 3, 4, 5, 6, 7);
        Due.law(x, 1, "38");
        due.call(x, 3, "read", 96);
        long[] rung = {0, 1, 1, 0, 1, 0, 0, 0};
        for (int i = 0; i < 8; i++) {
            due.call(x, rung[i], "of", i, 7);
        }
        due.call(x, -1661227463, "seed", 1);
        NamesOnLetters y = withLetters(1, 0, 1, 2, 3, 4, 5, 6, 7);
        Due.law(y, 1, "39");
        due.call(y, 1, "read", 1);
        due.call(y, 2, "read", 3);
        due.call(y, 4, "count", 3);
        due.call(y, 3, "count", 4);
        NamesOnLetters z = withLetters(1, 0, 1, 2, 3, 4, 5, 6, 7);
        Due.law(z, 1, "100");
        due.call(z, 8, "read", 8);
        NamesOnLetters none = withLetters(1, 0, 1, 2, 3);
        Due.law(none, 1, "0-1");
        due.call(none, 0, "read", 4);
    }

    private static void lawsSeeTheHouse() {
        // the first letter of each house is rung, the next ones see it
        NamesOnLetters x = withLetters(0, 0, 1, 2, 3, 4, 5, 6, 7);
        Due.law(x, 0, "100*(n=0)");
        due.call(x, 2, "read", 96);
        due.call(x, 1, "of", 0, 7);
        due.call(x, 1, "of", 4, 7);
        NamesOnLetters y = withLetters(0, 0, 1, 2, 3);
        Due.law(y, 0, "100*(k=2)");
        due.call(y, 1, "read", 96);
        due.call(y, 1, "of", 2, 7);
        NamesOnLetters z = withLetters(0, 3, 2, 1, 0);
        Due.law(z, 0, "100*(m=20)");
        due.call(z, 0, "read", 1);
        // 30 is the greatest worth of those read now
        due.call(z, 0, "read", 3);
        NamesOnLetters w = withLetters(0, 0, 1, 2, 3);
        Due.law(w, 0, "100*(m=20)");
        due.call(w, 1, "read", 4);
        due.call(w, 1, "of", 3, 7);
    }

    private static void readRefused() {
        NamesOnLetters x = withLetters(0, 0, 0);
        for (int n : new int[] {-1, 97, Integer.MAX_VALUE, Integer.MIN_VALUE}) {
            due.refused(x, "read", n);
        }
        due.call(x, 0, "count", 3);
        due.call(x, 1, "seed", 1);
    }

    private static void rings() {
        NamesOnLetters x = withLetters(0, 0, 0, 0);
        due.call(x, 1, "ring", 1, 1);
        due.call(x, 1, "ring", 0, 0);
        due.call(x, 1, "of", 1, 7);
        due.call(x, 0, "of", 0, 7);
        due.call(x, 1, "of", 0, 6);
        due.call(x, 0, "ring", 0, 1);
        due.call(x, 0, "ring", 1, 0);
        due.call(x, 1, "of", 1, 7);
        for (int i : new int[] {-1, 3, 96, Integer.MAX_VALUE, Integer.MIN_VALUE}) {
            due.call(x, 0, "ring", i, 1);
        }
        due.call(x, 2, "count", 3);
        due.call(x, 1, "seed", 1);
    }

    private static void boxes() {
        NamesOnLetters x = withLetters(0, 0, 0, 0, 0, 0, 0);
        x.ring(1, true);
        // 2, 1, 0, -1, -2: the letter read before stays, those below 0 are left
        due.call(x, 2, "box", 2, 5, 2, -1);
        long[] read = {1, 1, 1, 0, 0, 0};
        long[] rung = {1, 1, 0, 0, 0, 0};
        for (int i = 0; i < 6; i++) {
            due.call(x, read[i], "of", i, 6);
            due.call(x, rung[i], "of", i, 7);
        }
        due.call(x, 0, "box", 2, 0, 1, 1);
        due.call(x, 0, "box", 2, 3, 1, 1);
        due.call(x, 3, "box", 3, 0, 0, 0);
        due.call(x, 2, "count", 4);
        due.call(x, 0, "box", 3, 0, 0, 0);
        due.call(x, 1, "seed", 1);
        NamesOnLetters y = withLetters(0, 0, 0);
        due.call(y, 2, "box", 2, 96, 1, 0);
        due.call(y, 2, "count", 4);
    }

    private static void boxKinds() {
        // 127, then 128: as a byte -128
        NamesOnLetters x = withLetters(0, 0, 0, 0);
        due.call(x, 1, "box", 0, 3, 127, 1);
        due.call(x, 1, "of", 0, 7);
        due.call(x, 0, "of", 1, 6);
        // 256 is 0 as a byte
        due.call(x, 2, "box", 0, 3, 256, 256);
        due.call(x, 1, "count", 4);
        NamesOnLetters y = withLetters(0, 0, 0, 0);
        due.call(y, 1, "box", 1, 3, 32767, 1);
        due.call(y, 1, "count", 4);
        due.call(y, 2, "box", 1, 3, 65536, 0);
        due.call(y, 1, "count", 4);
        NamesOnLetters z = withLetters(0, 0, 0, 0);
        due.call(z, 1, "box", 2, 3, Integer.MAX_VALUE, 1);
        due.call(z, 2, "box", 2, 3, 65536, 0);
        due.call(z, 3, "count", 4);
    }

    private static void boxesRefused() {
        NamesOnLetters x = withLetters(0, 0, 0);
        for (int kind = 0; kind < 3; kind++) {
            due.call(x, -2, "box", kind, -1, 1, 1);
            due.call(x, -2, "box", kind, Integer.MIN_VALUE, 1, 1);
            due.refused(x, "box", kind, 97, 1, 1);
        }
        for (int kind : new int[] {-1, 4, Integer.MIN_VALUE}) {
            due.refused(x, "box", kind, -1, 1, 1);
            due.refused(x, "box", kind, 1, 1, 1);
        }
        due.refused(x, "box", 3, 97, 1, 1);
        due.call(x, 0, "count", 3);
        due.call(x, 2, "box", 3, -1, 1, 1);
    }

    private static void afterRings() {
        NamesOnLetters x = withLetters(0, 0, 0, 0);
        x.ring(0, true);
        x.ring(1, false);
        due.call(x, 0, "after", 0, 2);
        due.call(x, 2, "after", 0, 1);
        due.call(x, 1, "after", 0, 0);
        due.call(x, 0, "of", 0, 8);
        due.refused(x, "after", 0, 3);
        due.refused(x, "after", 0, -1);
        due.refused(x, "after", 1, 1);
        due.refused(x, "after", 2, 1);
        due.refused(x, "after", 3, 1);
        due.refused(x, "after", -1, 1);
        due.call(x, 0, "of", 0, 8);
    }

    private static void seeds() {
        NamesOnLetters x = withLetters(1, 0, 1, 2, 3);
        Due.law(x, 1, "57");
        due.call(x, 1, "seed", -5);
        due.call(x, -5, "seed", -5);
        // the draws of 100 from -5 on: 80, 11, 59, 56
        due.call(x, 2, "read", 4);
        due.call(x, 1, "of", 1, 7);
        due.call(x, 1, "of", 3, 7);
        due.call(x, 809803991, "seed", Integer.MIN_VALUE);
        due.call(x, Integer.MIN_VALUE, "seed", 0);
    }
}
