/** Promises 21 to 25: names, drawn, goes, says, child. */
public final class NamesTest {
    private static final Due due = new Due("names");

    public static void main(String[] args) {
        names();
        drawn();
        drawnEdges();
        goes();
        says();
        children();
        due.end();
    }

    /** Names with shares 1/2, 1, 0, 1/3 and none, by people, sex, class and taken. */
    private static NamesOnLetters five() {
        NamesOnLetters x = new NamesOnLetters();
        x.name(0, 0, 101 * 1 + 10);
        x.name(0, 0, 101 * 4 + 20);
        x.name(1, 0, 101 * 1 + 90);
        x.name(1, 1, 101 * 9 + 20);
        x.name(0, 1, 0);
        for (int h = 0; h < 3; h++) {
            x.house(0, 0, 0);
        }
        Due.read(x, 0, 0, true);
        Due.read(x, 0, 0, false);
        Due.read(x, 0, 1, true);
        Due.read(x, 0, 2, false);
        Due.read(x, 1, 3, true);
        Due.read(x, 1, 3, false);
        Due.read(x, 1, 3, false);
        x.letter(1, 4, 50, 0, 0);
        x.letter(2, 0, 50, 0, 0);
        return x;
    }

    private static void names() {
        NamesOnLetters x = five();
        due.call(x, 2, "names", 0);
        due.row(x, 1, 2);
        due.call(x, 3, "names", 3);
        due.row(x, 1, 3);
        due.call(x, 1, "names", 2);
        due.row(x, 0, 1);
        due.refused(x, "names", 5);
        due.refused(x, "names", -1);
        due.refused(x, "names", Integer.MAX_VALUE);
        due.row(x, 0, 1);
        due.call(x, 0, "names", 4);
        due.row(x);
    }

    private static void drawn() {
        // PEOPLE 1: 0 + 1/3; of the six pairs of 1/2, 1, 0, 1/3 only it is that low
        NamesOnLetters x = five();
        due.call(x, 0, "drawn");
        due.row(x, 1, 6);
        // with 1 + 0 told as PEOPLE 1's: 1/2 + 1/3, 1/2 + 0, 0 + 1/3 and itself
        NamesOnLetters y = new NamesOnLetters();
        Due.names(y, "0101");
        for (int h = 0; h < 2; h++) {
            y.house(0, 0, 0);
        }
        Due.read(y, 0, 0, true);
        Due.read(y, 0, 0, false);
        Due.read(y, 0, 1, true);
        Due.read(y, 0, 2, true);
        Due.read(y, 1, 2, false);
        Due.read(y, 1, 2, false);
        Due.read(y, 1, 3, false);
        due.call(y, 0, "drawn");
        due.row(y, 2, 3);
    }

    private static void drawnEdges() {
        NamesOnLetters x = new NamesOnLetters();
        due.call(x, -2, "drawn");
        Due.names(x, "00");
        x.house(0, 0, 0);
        x.letter(0, 0, 0, 0, 0);
        due.call(x, -2, "drawn");
        due.row(x);
        x.ring(0, true);
        due.call(x, 0, "drawn");
        due.row(x, 1, 1);
        // twelve names, six of them rung and of PEOPLE 1: no set is above it
        NamesOnLetters y = new NamesOnLetters();
        Due.names(y, "010101010101");
        for (int n = 0; n < 12; n++) {
            y.house(0, 0, 0);
            Due.read(y, n, n, n % 2 == 1);
        }
        due.call(y, 0, "drawn");
        due.row(y, 1, 1);
        NamesOnLetters z = new NamesOnLetters();
        Due.names(z, "010101010101");
        for (int n = 0; n < 12; n++) {
            z.house(0, 0, 0);
            Due.read(z, n, n, n % 2 == 0);
        }
        due.call(z, 0, "drawn");
        due.row(z, 1, 924);
    }

    private static void goes() {
        NamesOnLetters x = five();
        // shares 1/2, 1, 0, 1/3; people 0, 0, 1, 1
        due.call(x, 0, "goes", 0);
        due.row(x, 4, 2);
        // sex 0, 0, 0, 1: 1/3 is above 0 and below two
        due.call(x, 1, "goes", 1);
        due.row(x, 2, 3);
        // class 1, 4, 1, 9
        due.call(x, 3, "goes", 2);
        due.row(x, 2, 1);
        // taken 10, 20, 90, 20
        due.call(x, 1, "goes", 3);
        due.row(x, 4, 1);
        due.refused(x, "goes", 4);
        due.refused(x, "goes", -1);
        due.row(x, 4, 1);
        due.call(new NamesOnLetters(), 0, "goes", 0);
    }

    private static void says() {
        NamesOnLetters x = five();
        // -4, -1, 1, -3
        due.call(x, 0, "says");
        due.row(x, -4);
        NamesOnLetters none = new NamesOnLetters();
        due.call(none, 0, "says");
        due.row(none, 0);
        // class and taken go with the shares alike: the first of them
        NamesOnLetters y = new NamesOnLetters();
        y.name(0, 0, 101 + 1);
        y.name(0, 0, 101 * 2 + 2);
        y.house(0, 0, 0);
        Due.read(y, 0, 0, false);
        Due.read(y, 0, 1, true);
        due.call(y, 2, "says");
        due.row(y, 1);
        // shares that are alike go no way
        NamesOnLetters z = new NamesOnLetters();
        z.name(0, 0, 1);
        z.name(1, 1, 102);
        z.house(0, 0, 0);
        Due.read(z, 0, 0, true);
        Due.read(z, 0, 1, true);
        due.call(z, 0, "says");
        due.row(z, 0);
        due.call(z, 0, "goes", 3);
        due.row(z, 0, 1);
    }

    private static void children() {
        NamesOnLetters x = five();
        // names 0 and 1 alone are of one people and one sex, and both have read letters
        due.call(x, 1, "child", 3);
        due.row(x, 1, 0);
        due.call(x, 1, "child", 1);
        due.call(x, 0, "child", 4);
        due.row(x, 0, 0);
        due.refused(x, "child", 0);
        due.refused(x, "child", 10);
        due.refused(x, "child", -1);
        NamesOnLetters y = new NamesOnLetters();
        int[] classes = {9, 0, 5, 5};
        for (int c : classes) {
            y.name(1, 1, 101 * c);
        }
        y.name(1, 0, 0);
        y.name(0, 1, 0);
        y.house(0, 0, 0);
        y.house(0, 0, 0);
        boolean[] rung = {false, true, false, true, false, false};
        for (int n = 0; n < 6; n++) {
            Due.read(y, n / 4, n, rung[n]);
        }
        // by class and share: 9 0, 0 1, 5 0, 5 1: of 9-0, 9-5, 9-5, 5-0, 5-0 three have the lesser share
        due.call(y, 0, "child", 4);
        due.row(y, 5, 3);
        due.call(y, 0, "child", 9);
        due.row(y, 1, 1);
        due.call(y, 0, "child", 5);
        due.row(y, 3, 2);
    }
}
